theorem wl_RL_13 : Cond.methodLink RL 13 yX5_pump ∈ gtb := gtb_of 325 (by decide +kernel) (by decide +kernel)
theorem wm_X5_pump : Cond.instanceMethod yX5_pump ∈ gtb := gtb_of 326 (by decide +kernel) (by decide +kernel)
theorem wse_X5_pump : Cond.selects RX5 yX5_pump yX5_pump ∈ gtb := gtb_of 327 (by decide +kernel) (by decide +kernel)
theorem wc_X5_pump : Cond.code yX5_pump cX5_pump 4 (some .int) ∈ gtb := gtb_of 328 (by decide +kernel) (by decide +kernel)
theorem cv_RL_13 : CV RL 13 mtX5_pump 3 := ⟨wl_RL_13, wm_X5_pump, wse_X5_pump, wi_RX5, wc_X5_pump, ⟨by decide +kernel, by decide +kernel, by decide +kernel⟩⟩
theorem wl_RL_17 : Cond.methodLink RL 17 yX6_pump ∈ gtb := gtb_of 995 (by decide +kernel) (by decide +kernel)
theorem wm_X6_pump : Cond.instanceMethod yX6_pump ∈ gtb := gtb_of 996 (by decide +kernel) (by decide +kernel)
theorem wse_X6_pump : Cond.selects RX6 yX6_pump yX6_pump ∈ gtb := gtb_of 997 (by decide +kernel) (by decide +kernel)
theorem wc_X6_pump : Cond.code yX6_pump cX6_pump 4 (some .int) ∈ gtb := gtb_of 998 (by decide +kernel) (by decide +kernel)
theorem cv_RL_17 : CV RL 17 mtX6_pump 3 := ⟨wl_RL_17, wm_X6_pump, wse_X6_pump, wi_RX6, wc_X6_pump, ⟨by decide +kernel, by decide +kernel, by decide +kernel⟩⟩
theorem wl_RL_18 : Cond.methodLink RL 18 yX5_of ∈ gtb := gtb_of 345 (by decide +kernel) (by decide +kernel)
theorem wm_X5_of : Cond.instanceMethod yX5_of ∈ gtb := gtb_of 346 (by decide +kernel) (by decide +kernel)
theorem wse_X5_of : Cond.selects RX5 yX5_of yX5_of ∈ gtb := gtb_of 347 (by decide +kernel) (by decide +kernel)
theorem wc_X5_of : Cond.code yX5_of cX5_of 4 (some .int) ∈ gtb := gtb_of 348 (by decide +kernel) (by decide +kernel)
theorem cv_RL_18 : CV RL 18 mtX5_of 2 := ⟨wl_RL_18, wm_X5_of, wse_X5_of, wi_RX5, wc_X5_of, ⟨by decide +kernel, by decide +kernel, by decide +kernel⟩⟩
theorem wl_RL_22 : Cond.methodLink RL 22 yX6_of ∈ gtb := gtb_of 1025 (by decide +kernel) (by decide +kernel)
theorem wm_X6_of : Cond.instanceMethod yX6_of ∈ gtb := gtb_of 1026 (by decide +kernel) (by decide +kernel)
theorem wse_X6_of : Cond.selects RX6 yX6_of yX6_of ∈ gtb := gtb_of 1027 (by decide +kernel) (by decide +kernel)
theorem wc_X6_of : Cond.code yX6_of cX6_of 3 (some .int) ∈ gtb := gtb_of 1028 (by decide +kernel) (by decide +kernel)
theorem cv_RL_22 : CV RL 22 mtX6_of 2 := ⟨wl_RL_22, wm_X6_of, wse_X6_of, wi_RX6, wc_X6_of, ⟨by decide +kernel, by decide +kernel, by decide +kernel⟩⟩
theorem wl_RL_23 : Cond.methodLink RL 23 yX5_change ∈ gtb := gtb_of 373 (by decide +kernel) (by decide +kernel)
theorem wm_X5_change : Cond.instanceMethod yX5_change ∈ gtb := gtb_of 374 (by decide +kernel) (by decide +kernel)
theorem wse_X5_change : Cond.selects RX5 yX5_change yX5_change ∈ gtb := gtb_of 375 (by decide +kernel) (by decide +kernel)
theorem wc_X5_change : Cond.code yX5_change cX5_change 6 (some .int) ∈ gtb := gtb_of 376 (by decide +kernel) (by decide +kernel)
theorem cv_RL_23 : CV RL 23 mtX5_change 3 := ⟨wl_RL_23, wm_X5_change, wse_X5_change, wi_RX5, wc_X5_change, ⟨by decide +kernel, by decide +kernel, by decide +kernel⟩⟩
theorem wl_RL_26 : Cond.methodLink RL 26 yX6_change ∈ gtb := gtb_of 1049 (by decide +kernel) (by decide +kernel)
theorem wm_X6_change : Cond.instanceMethod yX6_change ∈ gtb := gtb_of 1050 (by decide +kernel) (by decide +kernel)
theorem wse_X6_change : Cond.selects RX6 yX6_change yX6_change ∈ gtb := gtb_of 1051 (by decide +kernel) (by decide +kernel)
theorem wc_X6_change : Cond.code yX6_change cX6_change 5 (some .int) ∈ gtb := gtb_of 1052 (by decide +kernel) (by decide +kernel)
theorem cv_RL_26 : CV RL 26 mtX6_change 3 := ⟨wl_RL_26, wm_X6_change, wse_X6_change, wi_RX6, wc_X6_change, ⟨by decide +kernel, by decide +kernel, by decide +kernel⟩⟩
theorem wl_RL_27 : Cond.methodLink RL 27 yX5_rule ∈ gtb := gtb_of 383 (by decide +kernel) (by decide +kernel)
theorem wm_X5_rule : Cond.instanceMethod yX5_rule ∈ gtb := gtb_of 384 (by decide +kernel) (by decide +kernel)
theorem wse_X5_rule : Cond.selects RX5 yX5_rule yX5_rule ∈ gtb := gtb_of 385 (by decide +kernel) (by decide +kernel)
theorem wc_X5_rule : Cond.code yX5_rule cX5_rule 4 (some .int) ∈ gtb := gtb_of 386 (by decide +kernel) (by decide +kernel)
theorem cv_RL_27 : CV RL 27 mtX5_rule 2 := ⟨wl_RL_27, wm_X5_rule, wse_X5_rule, wi_RX5, wc_X5_rule, ⟨by decide +kernel, by decide +kernel, by decide +kernel⟩⟩
theorem wl_RL_30 : Cond.methodLink RL 30 yX6_rule ∈ gtb := gtb_of 1053 (by decide +kernel) (by decide +kernel)
theorem wm_X6_rule : Cond.instanceMethod yX6_rule ∈ gtb := gtb_of 1054 (by decide +kernel) (by decide +kernel)
theorem wse_X6_rule : Cond.selects RX6 yX6_rule yX6_rule ∈ gtb := gtb_of 1055 (by decide +kernel) (by decide +kernel)
theorem wc_X6_rule : Cond.code yX6_rule cX6_rule 4 (some .int) ∈ gtb := gtb_of 1056 (by decide +kernel) (by decide +kernel)
theorem cv_RL_30 : CV RL 30 mtX6_rule 2 := ⟨wl_RL_30, wm_X6_rule, wse_X6_rule, wi_RX6, wc_X6_rule, ⟨by decide +kernel, by decide +kernel, by decide +kernel⟩⟩
theorem wl_RL_31 : Cond.methodLink RL 31 yX5_water ∈ gtb := gtb_of 399 (by decide +kernel) (by decide +kernel)
theorem wm_X5_water : Cond.instanceMethod yX5_water ∈ gtb := gtb_of 400 (by decide +kernel) (by decide +kernel)
theorem wse_X5_water : Cond.selects RX5 yX5_water yX5_water ∈ gtb := gtb_of 401 (by decide +kernel) (by decide +kernel)
theorem wc_X5_water : Cond.code yX5_water cX5_water 3 (some .int) ∈ gtb := gtb_of 402 (by decide +kernel) (by decide +kernel)
theorem cv_RL_31 : CV RL 31 mtX5_water 1 := ⟨wl_RL_31, wm_X5_water, wse_X5_water, wi_RX5, wc_X5_water, ⟨by decide +kernel, by decide +kernel, by decide +kernel⟩⟩
theorem wl_RL_35 : Cond.methodLink RL 35 yX6_water ∈ gtb := gtb_of 1064 (by decide +kernel) (by decide +kernel)
theorem wm_X6_water : Cond.instanceMethod yX6_water ∈ gtb := gtb_of 1065 (by decide +kernel) (by decide +kernel)
theorem wse_X6_water : Cond.selects RX6 yX6_water yX6_water ∈ gtb := gtb_of 1066 (by decide +kernel) (by decide +kernel)
theorem wc_X6_water : Cond.code yX6_water cX6_water 3 (some .int) ∈ gtb := gtb_of 1067 (by decide +kernel) (by decide +kernel)
theorem cv_RL_35 : CV RL 35 mtX6_water 1 := ⟨wl_RL_35, wm_X6_water, wse_X6_water, wi_RX6, wc_X6_water, ⟨by decide +kernel, by decide +kernel, by decide +kernel⟩⟩
theorem wl_RL_36 : Cond.methodLink RL 36 yX5_now ∈ gtb := gtb_of 407 (by decide +kernel) (by decide +kernel)
theorem wm_X5_now : Cond.instanceMethod yX5_now ∈ gtb := gtb_of 408 (by decide +kernel) (by decide +kernel)
theorem wse_X5_now : Cond.selects RX5 yX5_now yX5_now ∈ gtb := gtb_of 409 (by decide +kernel) (by decide +kernel)
theorem wc_X5_now : Cond.code yX5_now cX5_now 2 (some .int) ∈ gtb := gtb_of 410 (by decide +kernel) (by decide +kernel)
theorem cv_RL_36 : CV RL 36 mtX5_now 1 := ⟨wl_RL_36, wm_X5_now, wse_X5_now, wi_RX5, wc_X5_now, ⟨by decide +kernel, by decide +kernel, by decide +kernel⟩⟩
theorem wl_RL_39 : Cond.methodLink RL 39 yX6_now ∈ gtb := gtb_of 1072 (by decide +kernel) (by decide +kernel)
theorem wm_X6_now : Cond.instanceMethod yX6_now ∈ gtb := gtb_of 1073 (by decide +kernel) (by decide +kernel)
theorem wse_X6_now : Cond.selects RX6 yX6_now yX6_now ∈ gtb := gtb_of 1074 (by decide +kernel) (by decide +kernel)
theorem wc_X6_now : Cond.code yX6_now cX6_now 2 (some .int) ∈ gtb := gtb_of 1075 (by decide +kernel) (by decide +kernel)
theorem cv_RL_39 : CV RL 39 mtX6_now 1 := ⟨wl_RL_39, wm_X6_now, wse_X6_now, wi_RX6, wc_X6_now, ⟨by decide +kernel, by decide +kernel, by decide +kernel⟩⟩
theorem wl_RL_40 : Cond.methodLink RL 40 yX5_go ∈ gtb := gtb_of 411 (by decide +kernel) (by decide +kernel)
theorem wm_X5_go : Cond.instanceMethod yX5_go ∈ gtb := gtb_of 412 (by decide +kernel) (by decide +kernel)
theorem wse_X5_go : Cond.selects RX5 yX5_go yX5_go ∈ gtb := gtb_of 413 (by decide +kernel) (by decide +kernel)
theorem wc_X5_go : Cond.code yX5_go cX5_go 3 (some .int) ∈ gtb := gtb_of 414 (by decide +kernel) (by decide +kernel)
theorem cv_RL_40 : CV RL 40 mtX5_go 1 := ⟨wl_RL_40, wm_X5_go, wse_X5_go, wi_RX5, wc_X5_go, ⟨by decide +kernel, by decide +kernel, by decide +kernel⟩⟩
theorem wl_RL_43 : Cond.methodLink RL 43 yX6_go ∈ gtb := gtb_of 1076 (by decide +kernel) (by decide +kernel)
theorem wm_X6_go : Cond.instanceMethod yX6_go ∈ gtb := gtb_of 1077 (by decide +kernel) (by decide +kernel)
theorem wse_X6_go : Cond.selects RX6 yX6_go yX6_go ∈ gtb := gtb_of 1078 (by decide +kernel) (by decide +kernel)
theorem wc_X6_go : Cond.code yX6_go cX6_go 4 (some .int) ∈ gtb := gtb_of 1079 (by decide +kernel) (by decide +kernel)
theorem cv_RL_43 : CV RL 43 mtX6_go 1 := ⟨wl_RL_43, wm_X6_go, wse_X6_go, wi_RX6, wc_X6_go, ⟨by decide +kernel, by decide +kernel, by decide +kernel⟩⟩
theorem wl_RL_44 : Cond.methodLink RL 44 yX5_run ∈ gtb := gtb_of 432 (by decide +kernel) (by decide +kernel)
theorem wm_X5_run : Cond.instanceMethod yX5_run ∈ gtb := gtb_of 433 (by decide +kernel) (by decide +kernel)
theorem wse_X5_run : Cond.selects RX5 yX5_run yX5_run ∈ gtb := gtb_of 434 (by decide +kernel) (by decide +kernel)
theorem wc_X5_run : Cond.code yX5_run cX5_run 2 (some .int) ∈ gtb := gtb_of 435 (by decide +kernel) (by decide +kernel)
theorem cv_RL_44 : CV RL 44 mtX5_run 1 := ⟨wl_RL_44, wm_X5_run, wse_X5_run, wi_RX5, wc_X5_run, ⟨by decide +kernel, by decide +kernel, by decide +kernel⟩⟩
theorem wl_RL_47 : Cond.methodLink RL 47 yX6_run ∈ gtb := gtb_of 1092 (by decide +kernel) (by decide +kernel)
theorem wm_X6_run : Cond.instanceMethod yX6_run ∈ gtb := gtb_of 1093 (by decide +kernel) (by decide +kernel)
theorem wse_X6_run : Cond.selects RX6 yX6_run yX6_run ∈ gtb := gtb_of 1094 (by decide +kernel) (by decide +kernel)
theorem wc_X6_run : Cond.code yX6_run cX6_run 5 (some .int) ∈ gtb := gtb_of 1095 (by decide +kernel) (by decide +kernel)
theorem cv_RL_47 : CV RL 47 mtX6_run 1 := ⟨wl_RL_47, wm_X6_run, wse_X6_run, wi_RX6, wc_X6_run, ⟨by decide +kernel, by decide +kernel, by decide +kernel⟩⟩
theorem wl_RL_48 : Cond.methodLink RL 48 yX5_can ∈ gtb := gtb_of 450 (by decide +kernel) (by decide +kernel)
theorem wm_X5_can : Cond.instanceMethod yX5_can ∈ gtb := gtb_of 451 (by decide +kernel) (by decide +kernel)
theorem wse_X5_can : Cond.selects RX5 yX5_can yX5_can ∈ gtb := gtb_of 452 (by decide +kernel) (by decide +kernel)
theorem wc_X5_can : Cond.code yX5_can cX5_can 2 (some .int) ∈ gtb := gtb_of 453 (by decide +kernel) (by decide +kernel)
theorem cv_RL_48 : CV RL 48 mtX5_can 1 := ⟨wl_RL_48, wm_X5_can, wse_X5_can, wi_RX5, wc_X5_can, ⟨by decide +kernel, by decide +kernel, by decide +kernel⟩⟩
theorem wl_RL_51 : Cond.methodLink RL 51 yX6_can ∈ gtb := gtb_of 1105 (by decide +kernel) (by decide +kernel)
theorem wm_X6_can : Cond.instanceMethod yX6_can ∈ gtb := gtb_of 1106 (by decide +kernel) (by decide +kernel)
theorem wse_X6_can : Cond.selects RX6 yX6_can yX6_can ∈ gtb := gtb_of 1107 (by decide +kernel) (by decide +kernel)
theorem wc_X6_can : Cond.code yX6_can cX6_can 2 (some .int) ∈ gtb := gtb_of 1108 (by decide +kernel) (by decide +kernel)
theorem cv_RL_51 : CV RL 51 mtX6_can 1 := ⟨wl_RL_51, wm_X6_can, wse_X6_can, wi_RX6, wc_X6_can, ⟨by decide +kernel, by decide +kernel, by decide +kernel⟩⟩
theorem wl_RL_52 : Cond.methodLink RL 52 yX5_pour ∈ gtb := gtb_of 454 (by decide +kernel) (by decide +kernel)
theorem wm_X5_pour : Cond.instanceMethod yX5_pour ∈ gtb := gtb_of 455 (by decide +kernel) (by decide +kernel)
theorem wse_X5_pour : Cond.selects RX5 yX5_pour yX5_pour ∈ gtb := gtb_of 456 (by decide +kernel) (by decide +kernel)
theorem wc_X5_pour : Cond.code yX5_pour cX5_pour 2 (some .int) ∈ gtb := gtb_of 457 (by decide +kernel) (by decide +kernel)
theorem cv_RL_52 : CV RL 52 mtX5_pour 0 := ⟨wl_RL_52, wm_X5_pour, wse_X5_pour, wi_RX5, wc_X5_pour, ⟨by decide +kernel, by decide +kernel, by decide +kernel⟩⟩
theorem wl_RL_56 : Cond.methodLink RL 56 yX6_pour ∈ gtb := gtb_of 1109 (by decide +kernel) (by decide +kernel)
theorem wm_X6_pour : Cond.instanceMethod yX6_pour ∈ gtb := gtb_of 1110 (by decide +kernel) (by decide +kernel)
theorem wse_X6_pour : Cond.selects RX6 yX6_pour yX6_pour ∈ gtb := gtb_of 1111 (by decide +kernel) (by decide +kernel)
theorem wc_X6_pour : Cond.code yX6_pour cX6_pour 2 (some .int) ∈ gtb := gtb_of 1112 (by decide +kernel) (by decide +kernel)
theorem cv_RL_56 : CV RL 56 mtX6_pour 0 := ⟨wl_RL_56, wm_X6_pour, wse_X6_pour, wi_RX6, wc_X6_pour, ⟨by decide +kernel, by decide +kernel, by decide +kernel⟩⟩
theorem wl_RL_57 : Cond.methodLink RL 57 yX5_fill ∈ gtb := gtb_of 458 (by decide +kernel) (by decide +kernel)
theorem wm_X5_fill : Cond.instanceMethod yX5_fill ∈ gtb := gtb_of 459 (by decide +kernel) (by decide +kernel)
theorem wse_X5_fill : Cond.selects RX5 yX5_fill yX5_fill ∈ gtb := gtb_of 460 (by decide +kernel) (by decide +kernel)
theorem wc_X5_fill : Cond.code yX5_fill cX5_fill 2 (some .int) ∈ gtb := gtb_of 461 (by decide +kernel) (by decide +kernel)
theorem cv_RL_57 : CV RL 57 mtX5_fill 1 := ⟨wl_RL_57, wm_X5_fill, wse_X5_fill, wi_RX5, wc_X5_fill, ⟨by decide +kernel, by decide +kernel, by decide +kernel⟩⟩
theorem wl_RL_60 : Cond.methodLink RL 60 yX6_fill ∈ gtb := gtb_of 1113 (by decide +kernel) (by decide +kernel)
theorem wm_X6_fill : Cond.instanceMethod yX6_fill ∈ gtb := gtb_of 1114 (by decide +kernel) (by decide +kernel)
theorem wse_X6_fill : Cond.selects RX6 yX6_fill yX6_fill ∈ gtb := gtb_of 1115 (by decide +kernel) (by decide +kernel)
theorem wc_X6_fill : Cond.code yX6_fill cX6_fill 2 (some .int) ∈ gtb := gtb_of 1116 (by decide +kernel) (by decide +kernel)
theorem cv_RL_60 : CV RL 60 mtX6_fill 1 := ⟨wl_RL_60, wm_X6_fill, wse_X6_fill, wi_RX6, wc_X6_fill, ⟨by decide +kernel, by decide +kernel, by decide +kernel⟩⟩
theorem wl_RL_61 : Cond.methodLink RL 61 yX5_night ∈ gtb := gtb_of 462 (by decide +kernel) (by decide +kernel)
theorem wm_X5_night : Cond.instanceMethod yX5_night ∈ gtb := gtb_of 463 (by decide +kernel) (by decide +kernel)
theorem wse_X5_night : Cond.selects RX5 yX5_night yX5_night ∈ gtb := gtb_of 464 (by decide +kernel) (by decide +kernel)
theorem wc_X5_night : Cond.code yX5_night cX5_night 1 (some .int) ∈ gtb := gtb_of 465 (by decide +kernel) (by decide +kernel)
theorem cv_RL_61 : CV RL 61 mtX5_night 0 := ⟨wl_RL_61, wm_X5_night, wse_X5_night, wi_RX5, wc_X5_night, ⟨by decide +kernel, by decide +kernel, by decide +kernel⟩⟩
theorem wl_RL_64 : Cond.methodLink RL 64 yX6_night ∈ gtb := gtb_of 1117 (by decide +kernel) (by decide +kernel)
theorem wm_X6_night : Cond.instanceMethod yX6_night ∈ gtb := gtb_of 1118 (by decide +kernel) (by decide +kernel)
theorem wse_X6_night : Cond.selects RX6 yX6_night yX6_night ∈ gtb := gtb_of 1119 (by decide +kernel) (by decide +kernel)
theorem wc_X6_night : Cond.code yX6_night cX6_night 1 (some .int) ∈ gtb := gtb_of 1120 (by decide +kernel) (by decide +kernel)
theorem cv_RL_64 : CV RL 64 mtX6_night 0 := ⟨wl_RL_64, wm_X6_night, wse_X6_night, wi_RX6, wc_X6_night, ⟨by decide +kernel, by decide +kernel, by decide +kernel⟩⟩
theorem wl_RL_65 : Cond.methodLink RL 65 yX5_row ∈ gtb := gtb_of 466 (by decide +kernel) (by decide +kernel)
theorem wm_X5_row : Cond.instanceMethod yX5_row ∈ gtb := gtb_of 467 (by decide +kernel) (by decide +kernel)
theorem wse_X5_row : Cond.selects RX5 yX5_row yX5_row ∈ gtb := gtb_of 468 (by decide +kernel) (by decide +kernel)
theorem wc_X5_row : Cond.code yX5_row cX5_row 2 (some .int) ∈ gtb := gtb_of 469 (by decide +kernel) (by decide +kernel)
theorem cv_RL_65 : CV RL 65 mtX5_row 1 := ⟨wl_RL_65, wm_X5_row, wse_X5_row, wi_RX5, wc_X5_row, ⟨by decide +kernel, by decide +kernel, by decide +kernel⟩⟩
theorem wl_RL_68 : Cond.methodLink RL 68 yX6_row ∈ gtb := gtb_of 1151 (by decide +kernel) (by decide +kernel)
theorem wm_X6_row : Cond.instanceMethod yX6_row ∈ gtb := gtb_of 1152 (by decide +kernel) (by decide +kernel)
theorem wse_X6_row : Cond.selects RX6 yX6_row yX6_row ∈ gtb := gtb_of 1153 (by decide +kernel) (by decide +kernel)
theorem wc_X6_row : Cond.code yX6_row cX6_row 3 (some .int) ∈ gtb := gtb_of 1154 (by decide +kernel) (by decide +kernel)
theorem cv_RL_68 : CV RL 68 mtX6_row 1 := ⟨wl_RL_68, wm_X6_row, wse_X6_row, wi_RX6, wc_X6_row, ⟨by decide +kernel, by decide +kernel, by decide +kernel⟩⟩
theorem wl_RL_69 : Cond.methodLink RL 69 yX5_most ∈ gtb := gtb_of 502 (by decide +kernel) (by decide +kernel)
theorem wm_X5_most : Cond.instanceMethod yX5_most ∈ gtb := gtb_of 503 (by decide +kernel) (by decide +kernel)
theorem wse_X5_most : Cond.selects RX5 yX5_most yX5_most ∈ gtb := gtb_of 504 (by decide +kernel) (by decide +kernel)
theorem wc_X5_most : Cond.code yX5_most cX5_most 2 (some .int) ∈ gtb := gtb_of 505 (by decide +kernel) (by decide +kernel)
theorem cv_RL_69 : CV RL 69 mtX5_most 1 := ⟨wl_RL_69, wm_X5_most, wse_X5_most, wi_RX5, wc_X5_most, ⟨by decide +kernel, by decide +kernel, by decide +kernel⟩⟩
theorem wl_RL_72 : Cond.methodLink RL 72 yX6_most ∈ gtb := gtb_of 1121 (by decide +kernel) (by decide +kernel)
theorem wm_X6_most : Cond.instanceMethod yX6_most ∈ gtb := gtb_of 1122 (by decide +kernel) (by decide +kernel)
theorem wse_X6_most : Cond.selects RX6 yX6_most yX6_most ∈ gtb := gtb_of 1123 (by decide +kernel) (by decide +kernel)
theorem wc_X6_most : Cond.code yX6_most cX6_most 2 (some .int) ∈ gtb := gtb_of 1124 (by decide +kernel) (by decide +kernel)
theorem cv_RL_72 : CV RL 72 mtX6_most 1 := ⟨wl_RL_72, wm_X6_most, wse_X6_most, wi_RX6, wc_X6_most, ⟨by decide +kernel, by decide +kernel, by decide +kernel⟩⟩
theorem wl_RL_73 : Cond.methodLink RL 73 yX5_order ∈ gtb := gtb_of 526 (by decide +kernel) (by decide +kernel)
theorem wm_X5_order : Cond.instanceMethod yX5_order ∈ gtb := gtb_of 527 (by decide +kernel) (by decide +kernel)
theorem wse_X5_order : Cond.selects RX5 yX5_order yX5_order ∈ gtb := gtb_of 528 (by decide +kernel) (by decide +kernel)
theorem wc_X5_order : Cond.code yX5_order cX5_order 3 (some .int) ∈ gtb := gtb_of 529 (by decide +kernel) (by decide +kernel)
theorem cv_RL_73 : CV RL 73 mtX5_order 2 := ⟨wl_RL_73, wm_X5_order, wse_X5_order, wi_RX5, wc_X5_order, ⟨by decide +kernel, by decide +kernel, by decide +kernel⟩⟩
theorem wl_RL_76 : Cond.methodLink RL 76 yX6_order ∈ gtb := gtb_of 1159 (by decide +kernel) (by decide +kernel)
theorem wm_X6_order : Cond.instanceMethod yX6_order ∈ gtb := gtb_of 1160 (by decide +kernel) (by decide +kernel)
theorem wse_X6_order : Cond.selects RX6 yX6_order yX6_order ∈ gtb := gtb_of 1161 (by decide +kernel) (by decide +kernel)
theorem wc_X6_order : Cond.code yX6_order cX6_order 4 (some .int) ∈ gtb := gtb_of 1162 (by decide +kernel) (by decide +kernel)
theorem cv_RL_76 : CV RL 76 mtX6_order 2 := ⟨wl_RL_76, wm_X6_order, wse_X6_order, wi_RX6, wc_X6_order, ⟨by decide +kernel, by decide +kernel, by decide +kernel⟩⟩
theorem wl_RL_77 : Cond.methodLink RL 77 yX5_least ∈ gtb := gtb_of 566 (by decide +kernel) (by decide +kernel)
theorem wm_X5_least : Cond.instanceMethod yX5_least ∈ gtb := gtb_of 567 (by decide +kernel) (by decide +kernel)
theorem wse_X5_least : Cond.selects RX5 yX5_least yX5_least ∈ gtb := gtb_of 568 (by decide +kernel) (by decide +kernel)
theorem wc_X5_least : Cond.code yX5_least cX5_least 1 (some .int) ∈ gtb := gtb_of 569 (by decide +kernel) (by decide +kernel)
theorem cv_RL_77 : CV RL 77 mtX5_least 0 := ⟨wl_RL_77, wm_X5_least, wse_X5_least, wi_RX5, wc_X5_least, ⟨by decide +kernel, by decide +kernel, by decide +kernel⟩⟩
theorem wl_RL_80 : Cond.methodLink RL 80 yX6_least ∈ gtb := gtb_of 1168 (by decide +kernel) (by decide +kernel)
theorem wm_X6_least : Cond.instanceMethod yX6_least ∈ gtb := gtb_of 1169 (by decide +kernel) (by decide +kernel)
theorem wse_X6_least : Cond.selects RX6 yX6_least yX6_least ∈ gtb := gtb_of 1170 (by decide +kernel) (by decide +kernel)
theorem wc_X6_least : Cond.code yX6_least cX6_least 2 (some .int) ∈ gtb := gtb_of 1171 (by decide +kernel) (by decide +kernel)
theorem cv_RL_80 : CV RL 80 mtX6_least 0 := ⟨wl_RL_80, wm_X6_least, wse_X6_least, wi_RX6, wc_X6_least, ⟨by decide +kernel, by decide +kernel, by decide +kernel⟩⟩
theorem wl_RL_81 : Cond.methodLink RL 81 yX5_leastFor ∈ gtb := gtb_of 575 (by decide +kernel) (by decide +kernel)
theorem wm_X5_leastFor : Cond.instanceMethod yX5_leastFor ∈ gtb := gtb_of 576 (by decide +kernel) (by decide +kernel)
theorem wse_X5_leastFor : Cond.selects RX5 yX5_leastFor yX5_leastFor ∈ gtb := gtb_of 577 (by decide +kernel) (by decide +kernel)
theorem wc_X5_leastFor : Cond.code yX5_leastFor cX5_leastFor 2 (some .int) ∈ gtb := gtb_of 578 (by decide +kernel) (by decide +kernel)
theorem cv_RL_81 : CV RL 81 mtX5_leastFor 1 := ⟨wl_RL_81, wm_X5_leastFor, wse_X5_leastFor, wi_RX5, wc_X5_leastFor, ⟨by decide +kernel, by decide +kernel, by decide +kernel⟩⟩
theorem wl_RL_84 : Cond.methodLink RL 84 yX6_leastFor ∈ gtb := gtb_of 1172 (by decide +kernel) (by decide +kernel)
theorem wm_X6_leastFor : Cond.instanceMethod yX6_leastFor ∈ gtb := gtb_of 1173 (by decide +kernel) (by decide +kernel)
theorem wse_X6_leastFor : Cond.selects RX6 yX6_leastFor yX6_leastFor ∈ gtb := gtb_of 1174 (by decide +kernel) (by decide +kernel)
theorem wc_X6_leastFor : Cond.code yX6_leastFor cX6_leastFor 5 (some .int) ∈ gtb := gtb_of 1175 (by decide +kernel) (by decide +kernel)
theorem cv_RL_84 : CV RL 84 mtX6_leastFor 1 := ⟨wl_RL_84, wm_X6_leastFor, wse_X6_leastFor, wi_RX6, wc_X6_leastFor, ⟨by decide +kernel, by decide +kernel, by decide +kernel⟩⟩
theorem wl_RL_85 : Cond.methodLink RL 85 yX5_keep ∈ gtb := gtb_of 579 (by decide +kernel) (by decide +kernel)
theorem wm_X5_keep : Cond.instanceMethod yX5_keep ∈ gtb := gtb_of 580 (by decide +kernel) (by decide +kernel)
theorem wse_X5_keep : Cond.selects RX5 yX5_keep yX5_keep ∈ gtb := gtb_of 581 (by decide +kernel) (by decide +kernel)
theorem wc_X5_keep : Cond.code yX5_keep cX5_keep 1 (some .int) ∈ gtb := gtb_of 582 (by decide +kernel) (by decide +kernel)
theorem cv_RL_85 : CV RL 85 mtX5_keep 0 := ⟨wl_RL_85, wm_X5_keep, wse_X5_keep, wi_RX5, wc_X5_keep, ⟨by decide +kernel, by decide +kernel, by decide +kernel⟩⟩
theorem wl_RL_88 : Cond.methodLink RL 88 yX6_keep ∈ gtb := gtb_of 1176 (by decide +kernel) (by decide +kernel)
theorem wm_X6_keep : Cond.instanceMethod yX6_keep ∈ gtb := gtb_of 1177 (by decide +kernel) (by decide +kernel)
theorem wse_X6_keep : Cond.selects RX6 yX6_keep yX6_keep ∈ gtb := gtb_of 1178 (by decide +kernel) (by decide +kernel)
theorem wc_X6_keep : Cond.code yX6_keep cX6_keep 2 (some .int) ∈ gtb := gtb_of 1179 (by decide +kernel) (by decide +kernel)
theorem cv_RL_88 : CV RL 88 mtX6_keep 0 := ⟨wl_RL_88, wm_X6_keep, wse_X6_keep, wi_RX6, wc_X6_keep, ⟨by decide +kernel, by decide +kernel, by decide +kernel⟩⟩
theorem wl_RL_89 : Cond.methodLink RL 89 yX5_starts ∈ gtb := gtb_of 591 (by decide +kernel) (by decide +kernel)
theorem wm_X5_starts : Cond.instanceMethod yX5_starts ∈ gtb := gtb_of 592 (by decide +kernel) (by decide +kernel)
theorem wse_X5_starts : Cond.selects RX5 yX5_starts yX5_starts ∈ gtb := gtb_of 593 (by decide +kernel) (by decide +kernel)
theorem wc_X5_starts : Cond.code yX5_starts cX5_starts 2 (some .int) ∈ gtb := gtb_of 594 (by decide +kernel) (by decide +kernel)
theorem cv_RL_89 : CV RL 89 mtX5_starts 1 := ⟨wl_RL_89, wm_X5_starts, wse_X5_starts, wi_RX5, wc_X5_starts, ⟨by decide +kernel, by decide +kernel, by decide +kernel⟩⟩
theorem wl_RL_92 : Cond.methodLink RL 92 yX6_starts ∈ gtb := gtb_of 1180 (by decide +kernel) (by decide +kernel)
theorem wm_X6_starts : Cond.instanceMethod yX6_starts ∈ gtb := gtb_of 1181 (by decide +kernel) (by decide +kernel)
theorem wse_X6_starts : Cond.selects RX6 yX6_starts yX6_starts ∈ gtb := gtb_of 1182 (by decide +kernel) (by decide +kernel)
theorem wc_X6_starts : Cond.code yX6_starts cX6_starts 4 (some .int) ∈ gtb := gtb_of 1183 (by decide +kernel) (by decide +kernel)
theorem cv_RL_92 : CV RL 92 mtX6_starts 1 := ⟨wl_RL_92, wm_X6_starts, wse_X6_starts, wi_RX6, wc_X6_starts, ⟨by decide +kernel, by decide +kernel, by decide +kernel⟩⟩
theorem wl_RL_93 : Cond.methodLink RL 93 yX5_ring ∈ gtb := gtb_of 599 (by decide +kernel) (by decide +kernel)
theorem wm_X5_ring : Cond.instanceMethod yX5_ring ∈ gtb := gtb_of 600 (by decide +kernel) (by decide +kernel)
theorem wse_X5_ring : Cond.selects RX5 yX5_ring yX5_ring ∈ gtb := gtb_of 601 (by decide +kernel) (by decide +kernel)
theorem wc_X5_ring : Cond.code yX5_ring cX5_ring 2 (some .int) ∈ gtb := gtb_of 602 (by decide +kernel) (by decide +kernel)
theorem cv_RL_93 : CV RL 93 mtX5_ring 0 := ⟨wl_RL_93, wm_X5_ring, wse_X5_ring, wi_RX5, wc_X5_ring, ⟨by decide +kernel, by decide +kernel, by decide +kernel⟩⟩
theorem wl_RL_96 : Cond.methodLink RL 96 yX6_ring ∈ gtb := gtb_of 1184 (by decide +kernel) (by decide +kernel)
theorem wm_X6_ring : Cond.instanceMethod yX6_ring ∈ gtb := gtb_of 1185 (by decide +kernel) (by decide +kernel)
theorem wse_X6_ring : Cond.selects RX6 yX6_ring yX6_ring ∈ gtb := gtb_of 1186 (by decide +kernel) (by decide +kernel)
theorem wc_X6_ring : Cond.code yX6_ring cX6_ring 4 (some .int) ∈ gtb := gtb_of 1187 (by decide +kernel) (by decide +kernel)
theorem cv_RL_96 : CV RL 96 mtX6_ring 0 := ⟨wl_RL_96, wm_X6_ring, wse_X6_ring, wi_RX6, wc_X6_ring, ⟨by decide +kernel, by decide +kernel, by decide +kernel⟩⟩
theorem wl_RL_97 : Cond.methodLink RL 97 yX5_mistake ∈ gtb := gtb_of 614 (by decide +kernel) (by decide +kernel)
theorem wm_X5_mistake : Cond.instanceMethod yX5_mistake ∈ gtb := gtb_of 615 (by decide +kernel) (by decide +kernel)
theorem wse_X5_mistake : Cond.selects RX5 yX5_mistake yX5_mistake ∈ gtb := gtb_of 616 (by decide +kernel) (by decide +kernel)
theorem wc_X5_mistake : Cond.code yX5_mistake cX5_mistake 3 (some .int) ∈ gtb := gtb_of 617 (by decide +kernel) (by decide +kernel)
theorem cv_RL_97 : CV RL 97 mtX5_mistake 2 := ⟨wl_RL_97, wm_X5_mistake, wse_X5_mistake, wi_RX5, wc_X5_mistake, ⟨by decide +kernel, by decide +kernel, by decide +kernel⟩⟩
theorem wl_RL_100 : Cond.methodLink RL 100 yX6_mistake ∈ gtb := gtb_of 1192 (by decide +kernel) (by decide +kernel)
theorem wm_X6_mistake : Cond.instanceMethod yX6_mistake ∈ gtb := gtb_of 1193 (by decide +kernel) (by decide +kernel)
theorem wse_X6_mistake : Cond.selects RX6 yX6_mistake yX6_mistake ∈ gtb := gtb_of 1194 (by decide +kernel) (by decide +kernel)
theorem wc_X6_mistake : Cond.code yX6_mistake cX6_mistake 4 (some .int) ∈ gtb := gtb_of 1195 (by decide +kernel) (by decide +kernel)
theorem cv_RL_100 : CV RL 100 mtX6_mistake 2 := ⟨wl_RL_100, wm_X6_mistake, wse_X6_mistake, wi_RX6, wc_X6_mistake, ⟨by decide +kernel, by decide +kernel, by decide +kernel⟩⟩
theorem wl_RL_101 : Cond.methodLink RL 101 yX5_dear ∈ gtb := gtb_of 618 (by decide +kernel) (by decide +kernel)
theorem wm_X5_dear : Cond.instanceMethod yX5_dear ∈ gtb := gtb_of 619 (by decide +kernel) (by decide +kernel)
theorem wse_X5_dear : Cond.selects RX5 yX5_dear yX5_dear ∈ gtb := gtb_of 620 (by decide +kernel) (by decide +kernel)
theorem wc_X5_dear : Cond.code yX5_dear cX5_dear 2 (some .int) ∈ gtb := gtb_of 621 (by decide +kernel) (by decide +kernel)
theorem cv_RL_101 : CV RL 101 mtX5_dear 1 := ⟨wl_RL_101, wm_X5_dear, wse_X5_dear, wi_RX5, wc_X5_dear, ⟨by decide +kernel, by decide +kernel, by decide +kernel⟩⟩
theorem wl_RL_104 : Cond.methodLink RL 104 yX6_dear ∈ gtb := gtb_of 1200 (by decide +kernel) (by decide +kernel)
theorem wm_X6_dear : Cond.instanceMethod yX6_dear ∈ gtb := gtb_of 1201 (by decide +kernel) (by decide +kernel)
theorem wse_X6_dear : Cond.selects RX6 yX6_dear yX6_dear ∈ gtb := gtb_of 1202 (by decide +kernel) (by decide +kernel)
theorem wc_X6_dear : Cond.code yX6_dear cX6_dear 6 (some .int) ∈ gtb := gtb_of 1203 (by decide +kernel) (by decide +kernel)
theorem cv_RL_104 : CV RL 104 mtX6_dear 1 := ⟨wl_RL_104, wm_X6_dear, wse_X6_dear, wi_RX6, wc_X6_dear, ⟨by decide +kernel, by decide +kernel, by decide +kernel⟩⟩
theorem wl_RL_105 : Cond.methodLink RL 105 yX5_spring ∈ gtb := gtb_of 626 (by decide +kernel) (by decide +kernel)
theorem wm_X5_spring : Cond.instanceMethod yX5_spring ∈ gtb := gtb_of 627 (by decide +kernel) (by decide +kernel)
theorem wse_X5_spring : Cond.selects RX5 yX5_spring yX5_spring ∈ gtb := gtb_of 628 (by decide +kernel) (by decide +kernel)
theorem wc_X5_spring : Cond.code yX5_spring cX5_spring 2 (some .int) ∈ gtb := gtb_of 629 (by decide +kernel) (by decide +kernel)
theorem cv_RL_105 : CV RL 105 mtX5_spring 1 := ⟨wl_RL_105, wm_X5_spring, wse_X5_spring, wi_RX5, wc_X5_spring, ⟨by decide +kernel, by decide +kernel, by decide +kernel⟩⟩
theorem wl_RL_108 : Cond.methodLink RL 108 yX6_spring ∈ gtb := gtb_of 1204 (by decide +kernel) (by decide +kernel)
theorem wm_X6_spring : Cond.instanceMethod yX6_spring ∈ gtb := gtb_of 1205 (by decide +kernel) (by decide +kernel)
theorem wse_X6_spring : Cond.selects RX6 yX6_spring yX6_spring ∈ gtb := gtb_of 1206 (by decide +kernel) (by decide +kernel)
theorem wc_X6_spring : Cond.code yX6_spring cX6_spring 7 (some .int) ∈ gtb := gtb_of 1207 (by decide +kernel) (by decide +kernel)
theorem cv_RL_108 : CV RL 108 mtX6_spring 1 := ⟨wl_RL_108, wm_X6_spring, wse_X6_spring, wi_RX6, wc_X6_spring, ⟨by decide +kernel, by decide +kernel, by decide +kernel⟩⟩
theorem wl_RL_109 : Cond.methodLink RL 109 yX5_matters ∈ gtb := gtb_of 634 (by decide +kernel) (by decide +kernel)
theorem wm_X5_matters : Cond.instanceMethod yX5_matters ∈ gtb := gtb_of 635 (by decide +kernel) (by decide +kernel)
theorem wse_X5_matters : Cond.selects RX5 yX5_matters yX5_matters ∈ gtb := gtb_of 636 (by decide +kernel) (by decide +kernel)
theorem wc_X5_matters : Cond.code yX5_matters cX5_matters 3 (some .int) ∈ gtb := gtb_of 637 (by decide +kernel) (by decide +kernel)
theorem cv_RL_109 : CV RL 109 mtX5_matters 1 := ⟨wl_RL_109, wm_X5_matters, wse_X5_matters, wi_RX5, wc_X5_matters, ⟨by decide +kernel, by decide +kernel, by decide +kernel⟩⟩
theorem wl_RL_112 : Cond.methodLink RL 112 yX6_matters ∈ gtb := gtb_of 1216 (by decide +kernel) (by decide +kernel)
theorem wm_X6_matters : Cond.instanceMethod yX6_matters ∈ gtb := gtb_of 1217 (by decide +kernel) (by decide +kernel)
theorem wse_X6_matters : Cond.selects RX6 yX6_matters yX6_matters ∈ gtb := gtb_of 1218 (by decide +kernel) (by decide +kernel)
theorem wc_X6_matters : Cond.code yX6_matters cX6_matters 6 (some .int) ∈ gtb := gtb_of 1219 (by decide +kernel) (by decide +kernel)
theorem cv_RL_112 : CV RL 112 mtX6_matters 1 := ⟨wl_RL_112, wm_X6_matters, wse_X6_matters, wi_RX6, wc_X6_matters, ⟨by decide +kernel, by decide +kernel, by decide +kernel⟩⟩
theorem wl_RL_113 : Cond.methodLink RL 113 yX5_room ∈ gtb := gtb_of 642 (by decide +kernel) (by decide +kernel)
theorem wm_X5_room : Cond.instanceMethod yX5_room ∈ gtb := gtb_of 643 (by decide +kernel) (by decide +kernel)
theorem wse_X5_room : Cond.selects RX5 yX5_room yX5_room ∈ gtb := gtb_of 644 (by decide +kernel) (by decide +kernel)
theorem wc_X5_room : Cond.code yX5_room cX5_room 2 (some .int) ∈ gtb := gtb_of 645 (by decide +kernel) (by decide +kernel)
theorem cv_RL_113 : CV RL 113 mtX5_room 1 := ⟨wl_RL_113, wm_X5_room, wse_X5_room, wi_RX5, wc_X5_room, ⟨by decide +kernel, by decide +kernel, by decide +kernel⟩⟩
theorem wl_RL_116 : Cond.methodLink RL 116 yX6_room ∈ gtb := gtb_of 1220 (by decide +kernel) (by decide +kernel)
theorem wm_X6_room : Cond.instanceMethod yX6_room ∈ gtb := gtb_of 1221 (by decide +kernel) (by decide +kernel)
theorem wse_X6_room : Cond.selects RX6 yX6_room yX6_room ∈ gtb := gtb_of 1222 (by decide +kernel) (by decide +kernel)
theorem wc_X6_room : Cond.code yX6_room cX6_room 6 (some .int) ∈ gtb := gtb_of 1223 (by decide +kernel) (by decide +kernel)
theorem cv_RL_116 : CV RL 116 mtX6_room 1 := ⟨wl_RL_116, wm_X6_room, wse_X6_room, wi_RX6, wc_X6_room, ⟨by decide +kernel, by decide +kernel, by decide +kernel⟩⟩
theorem wl_RL_117 : Cond.methodLink RL 117 yX5_bears ∈ gtb := gtb_of 650 (by decide +kernel) (by decide +kernel)
theorem wm_X5_bears : Cond.instanceMethod yX5_bears ∈ gtb := gtb_of 651 (by decide +kernel) (by decide +kernel)
theorem wse_X5_bears : Cond.selects RX5 yX5_bears yX5_bears ∈ gtb := gtb_of 652 (by decide +kernel) (by decide +kernel)
theorem wc_X5_bears : Cond.code yX5_bears cX5_bears 3 (some .int) ∈ gtb := gtb_of 653 (by decide +kernel) (by decide +kernel)
theorem cv_RL_117 : CV RL 117 mtX5_bears 1 := ⟨wl_RL_117, wm_X5_bears, wse_X5_bears, wi_RX5, wc_X5_bears, ⟨by decide +kernel, by decide +kernel, by decide +kernel⟩⟩
theorem wl_RL_120 : Cond.methodLink RL 120 yX6_bears ∈ gtb := gtb_of 1224 (by decide +kernel) (by decide +kernel)
theorem wm_X6_bears : Cond.instanceMethod yX6_bears ∈ gtb := gtb_of 1225 (by decide +kernel) (by decide +kernel)
theorem wse_X6_bears : Cond.selects RX6 yX6_bears yX6_bears ∈ gtb := gtb_of 1226 (by decide +kernel) (by decide +kernel)
theorem wc_X6_bears : Cond.code yX6_bears cX6_bears 5 (some .int) ∈ gtb := gtb_of 1227 (by decide +kernel) (by decide +kernel)
theorem cv_RL_120 : CV RL 120 mtX6_bears 1 := ⟨wl_RL_120, wm_X6_bears, wse_X6_bears, wi_RX6, wc_X6_bears, ⟨by decide +kernel, by decide +kernel, by decide +kernel⟩⟩
theorem wl_RL_121 : Cond.methodLink RL 121 yX5_odds ∈ gtb := gtb_of 654 (by decide +kernel) (by decide +kernel)
theorem wm_X5_odds : Cond.instanceMethod yX5_odds ∈ gtb := gtb_of 655 (by decide +kernel) (by decide +kernel)
theorem wse_X5_odds : Cond.selects RX5 yX5_odds yX5_odds ∈ gtb := gtb_of 656 (by decide +kernel) (by decide +kernel)
theorem wc_X5_odds : Cond.code yX5_odds cX5_odds 3 (some .long) ∈ gtb := gtb_of 657 (by decide +kernel) (by decide +kernel)
theorem cv_RL_121 : CV RL 121 mtX5_odds 2 := ⟨wl_RL_121, wm_X5_odds, wse_X5_odds, wi_RX5, wc_X5_odds, ⟨by decide +kernel, by decide +kernel, by decide +kernel⟩⟩
theorem wl_RL_125 : Cond.methodLink RL 125 yX6_odds ∈ gtb := gtb_of 1228 (by decide +kernel) (by decide +kernel)
theorem wm_X6_odds : Cond.instanceMethod yX6_odds ∈ gtb := gtb_of 1229 (by decide +kernel) (by decide +kernel)
theorem wse_X6_odds : Cond.selects RX6 yX6_odds yX6_odds ∈ gtb := gtb_of 1230 (by decide +kernel) (by decide +kernel)
theorem wc_X6_odds : Cond.code yX6_odds cX6_odds 8 (some .long) ∈ gtb := gtb_of 1231 (by decide +kernel) (by decide +kernel)
theorem cv_RL_125 : CV RL 125 mtX6_odds 2 := ⟨wl_RL_125, wm_X6_odds, wse_X6_odds, wi_RX6, wc_X6_odds, ⟨by decide +kernel, by decide +kernel, by decide +kernel⟩⟩
theorem wl_RL_126 : Cond.methodLink RL 126 yX5_mean ∈ gtb := gtb_of 666 (by decide +kernel) (by decide +kernel)
theorem wm_X5_mean : Cond.instanceMethod yX5_mean ∈ gtb := gtb_of 667 (by decide +kernel) (by decide +kernel)
theorem wse_X5_mean : Cond.selects RX5 yX5_mean yX5_mean ∈ gtb := gtb_of 668 (by decide +kernel) (by decide +kernel)
theorem wc_X5_mean : Cond.code yX5_mean cX5_mean 2 (some .long) ∈ gtb := gtb_of 669 (by decide +kernel) (by decide +kernel)
theorem cv_RL_126 : CV RL 126 mtX5_mean 1 := ⟨wl_RL_126, wm_X5_mean, wse_X5_mean, wi_RX5, wc_X5_mean, ⟨by decide +kernel, by decide +kernel, by decide +kernel⟩⟩
theorem wl_RL_130 : Cond.methodLink RL 130 yX6_mean ∈ gtb := gtb_of 1237 (by decide +kernel) (by decide +kernel)
theorem wm_X6_mean : Cond.instanceMethod yX6_mean ∈ gtb := gtb_of 1238 (by decide +kernel) (by decide +kernel)
theorem wse_X6_mean : Cond.selects RX6 yX6_mean yX6_mean ∈ gtb := gtb_of 1239 (by decide +kernel) (by decide +kernel)
theorem wc_X6_mean : Cond.code yX6_mean cX6_mean 7 (some .long) ∈ gtb := gtb_of 1240 (by decide +kernel) (by decide +kernel)
theorem cv_RL_130 : CV RL 130 mtX6_mean 1 := ⟨wl_RL_130, wm_X6_mean, wse_X6_mean, wi_RX6, wc_X6_mean, ⟨by decide +kernel, by decide +kernel, by decide +kernel⟩⟩
theorem wl_RL_131 : Cond.methodLink RL 131 yX5_rust ∈ gtb := gtb_of 675 (by decide +kernel) (by decide +kernel)
theorem wm_X5_rust : Cond.instanceMethod yX5_rust ∈ gtb := gtb_of 676 (by decide +kernel) (by decide +kernel)
theorem wse_X5_rust : Cond.selects RX5 yX5_rust yX5_rust ∈ gtb := gtb_of 677 (by decide +kernel) (by decide +kernel)
theorem wc_X5_rust : Cond.code yX5_rust cX5_rust 4 (some .int) ∈ gtb := gtb_of 678 (by decide +kernel) (by decide +kernel)
theorem cv_RL_131 : CV RL 131 mtX5_rust 1 := ⟨wl_RL_131, wm_X5_rust, wse_X5_rust, wi_RX5, wc_X5_rust, ⟨by decide +kernel, by decide +kernel, by decide +kernel⟩⟩
theorem wl_RL_134 : Cond.methodLink RL 134 yX6_rust ∈ gtb := gtb_of 1241 (by decide +kernel) (by decide +kernel)
theorem wm_X6_rust : Cond.instanceMethod yX6_rust ∈ gtb := gtb_of 1242 (by decide +kernel) (by decide +kernel)
theorem wse_X6_rust : Cond.selects RX6 yX6_rust yX6_rust ∈ gtb := gtb_of 1243 (by decide +kernel) (by decide +kernel)
theorem wc_X6_rust : Cond.code yX6_rust cX6_rust 4 (some .int) ∈ gtb := gtb_of 1244 (by decide +kernel) (by decide +kernel)
theorem cv_RL_134 : CV RL 134 mtX6_rust 1 := ⟨wl_RL_134, wm_X6_rust, wse_X6_rust, wi_RX6, wc_X6_rust, ⟨by decide +kernel, by decide +kernel, by decide +kernel⟩⟩
theorem wl_RL_135 : Cond.methodLink RL 135 yX5_seed ∈ gtb := gtb_of 680 (by decide +kernel) (by decide +kernel)
theorem wm_X5_seed : Cond.instanceMethod yX5_seed ∈ gtb := gtb_of 681 (by decide +kernel) (by decide +kernel)
theorem wse_X5_seed : Cond.selects RX5 yX5_seed yX5_seed ∈ gtb := gtb_of 682 (by decide +kernel) (by decide +kernel)
theorem wc_X5_seed : Cond.code yX5_seed cX5_seed 3 (some .int) ∈ gtb := gtb_of 683 (by decide +kernel) (by decide +kernel)
theorem cv_RL_135 : CV RL 135 mtX5_seed 1 := ⟨wl_RL_135, wm_X5_seed, wse_X5_seed, wi_RX5, wc_X5_seed, ⟨by decide +kernel, by decide +kernel, by decide +kernel⟩⟩
theorem wl_RL_138 : Cond.methodLink RL 138 yX6_seed ∈ gtb := gtb_of 1245 (by decide +kernel) (by decide +kernel)
theorem wm_X6_seed : Cond.instanceMethod yX6_seed ∈ gtb := gtb_of 1246 (by decide +kernel) (by decide +kernel)
theorem wse_X6_seed : Cond.selects RX6 yX6_seed yX6_seed ∈ gtb := gtb_of 1247 (by decide +kernel) (by decide +kernel)
theorem wc_X6_seed : Cond.code yX6_seed cX6_seed 3 (some .int) ∈ gtb := gtb_of 1248 (by decide +kernel) (by decide +kernel)
theorem cv_RL_138 : CV RL 138 mtX6_seed 1 := ⟨wl_RL_138, wm_X6_seed, wse_X6_seed, wi_RX6, wc_X6_seed, ⟨by decide +kernel, by decide +kernel, by decide +kernel⟩⟩
theorem wl_RL_139 : Cond.methodLink RL 139 yX5_barrel ∈ gtb := gtb_of 684 (by decide +kernel) (by decide +kernel)
theorem wm_X5_barrel : Cond.instanceMethod yX5_barrel ∈ gtb := gtb_of 685 (by decide +kernel) (by decide +kernel)
theorem wse_X5_barrel : Cond.selects RX5 yX5_barrel yX5_barrel ∈ gtb := gtb_of 686 (by decide +kernel) (by decide +kernel)
theorem wc_X5_barrel : Cond.code yX5_barrel cX5_barrel 4 (some .int) ∈ gtb := gtb_of 687 (by decide +kernel) (by decide +kernel)
theorem cv_RL_139 : CV RL 139 mtX5_barrel 2 := ⟨wl_RL_139, wm_X5_barrel, wse_X5_barrel, wi_RX5, wc_X5_barrel, ⟨by decide +kernel, by decide +kernel, by decide +kernel⟩⟩
theorem wl_RL_142 : Cond.methodLink RL 142 yX6_barrel ∈ gtb := gtb_of 1366 (by decide +kernel) (by decide +kernel)
theorem wm_X6_barrel : Cond.instanceMethod yX6_barrel ∈ gtb := gtb_of 1367 (by decide +kernel) (by decide +kernel)
theorem wse_X6_barrel : Cond.selects RX6 yX6_barrel yX6_barrel ∈ gtb := gtb_of 1368 (by decide +kernel) (by decide +kernel)
theorem wc_X6_barrel : Cond.code yX6_barrel cX6_barrel 6 (some .int) ∈ gtb := gtb_of 1369 (by decide +kernel) (by decide +kernel)
theorem cv_RL_142 : CV RL 142 mtX6_barrel 2 := ⟨wl_RL_142, wm_X6_barrel, wse_X6_barrel, wi_RX6, wc_X6_barrel, ⟨by decide +kernel, by decide +kernel, by decide +kernel⟩⟩
theorem wl_RL_143 : Cond.methodLink RL 143 yX5_judge ∈ gtb := gtb_of 699 (by decide +kernel) (by decide +kernel)
theorem wm_X5_judge : Cond.instanceMethod yX5_judge ∈ gtb := gtb_of 700 (by decide +kernel) (by decide +kernel)
theorem wse_X5_judge : Cond.selects RX5 yX5_judge yX5_judge ∈ gtb := gtb_of 701 (by decide +kernel) (by decide +kernel)
theorem wc_X5_judge : Cond.code yX5_judge cX5_judge 4 (some .int) ∈ gtb := gtb_of 702 (by decide +kernel) (by decide +kernel)
theorem cv_RL_143 : CV RL 143 mtX5_judge 2 := ⟨wl_RL_143, wm_X5_judge, wse_X5_judge, wi_RX5, wc_X5_judge, ⟨by decide +kernel, by decide +kernel, by decide +kernel⟩⟩
theorem wl_RL_146 : Cond.methodLink RL 146 yX6_judge ∈ gtb := gtb_of 1374 (by decide +kernel) (by decide +kernel)
theorem wm_X6_judge : Cond.instanceMethod yX6_judge ∈ gtb := gtb_of 1375 (by decide +kernel) (by decide +kernel)
theorem wse_X6_judge : Cond.selects RX6 yX6_judge yX6_judge ∈ gtb := gtb_of 1376 (by decide +kernel) (by decide +kernel)
theorem wc_X6_judge : Cond.code yX6_judge cX6_judge 8 (some .int) ∈ gtb := gtb_of 1377 (by decide +kernel) (by decide +kernel)
theorem cv_RL_146 : CV RL 146 mtX6_judge 2 := ⟨wl_RL_146, wm_X6_judge, wse_X6_judge, wi_RX6, wc_X6_judge, ⟨by decide +kernel, by decide +kernel, by decide +kernel⟩⟩
theorem wl_RL_147 : Cond.methodLink RL 147 yX5_feed ∈ gtb := gtb_of 707 (by decide +kernel) (by decide +kernel)
theorem wm_X5_feed : Cond.instanceMethod yX5_feed ∈ gtb := gtb_of 708 (by decide +kernel) (by decide +kernel)
theorem wse_X5_feed : Cond.selects RX5 yX5_feed yX5_feed ∈ gtb := gtb_of 709 (by decide +kernel) (by decide +kernel)
theorem wc_X5_feed : Cond.code yX5_feed cX5_feed 4 (some .int) ∈ gtb := gtb_of 710 (by decide +kernel) (by decide +kernel)
theorem cv_RL_147 : CV RL 147 mtX5_feed 2 := ⟨wl_RL_147, wm_X5_feed, wse_X5_feed, wi_RX5, wc_X5_feed, ⟨by decide +kernel, by decide +kernel, by decide +kernel⟩⟩
theorem wl_RL_150 : Cond.methodLink RL 150 yX6_feed ∈ gtb := gtb_of 1249 (by decide +kernel) (by decide +kernel)
theorem wm_X6_feed : Cond.instanceMethod yX6_feed ∈ gtb := gtb_of 1250 (by decide +kernel) (by decide +kernel)
theorem wse_X6_feed : Cond.selects RX6 yX6_feed yX6_feed ∈ gtb := gtb_of 1251 (by decide +kernel) (by decide +kernel)
theorem wc_X6_feed : Cond.code yX6_feed cX6_feed 4 (some .int) ∈ gtb := gtb_of 1252 (by decide +kernel) (by decide +kernel)
theorem cv_RL_150 : CV RL 150 mtX6_feed 2 := ⟨wl_RL_150, wm_X6_feed, wse_X6_feed, wi_RX6, wc_X6_feed, ⟨by decide +kernel, by decide +kernel, by decide +kernel⟩⟩
theorem wl_RL_151 : Cond.methodLink RL 151 yX5_wipe ∈ gtb := gtb_of 715 (by decide +kernel) (by decide +kernel)
theorem wm_X5_wipe : Cond.instanceMethod yX5_wipe ∈ gtb := gtb_of 716 (by decide +kernel) (by decide +kernel)
theorem wse_X5_wipe : Cond.selects RX5 yX5_wipe yX5_wipe ∈ gtb := gtb_of 717 (by decide +kernel) (by decide +kernel)
theorem wc_X5_wipe : Cond.code yX5_wipe cX5_wipe 2 (some .int) ∈ gtb := gtb_of 718 (by decide +kernel) (by decide +kernel)
theorem cv_RL_151 : CV RL 151 mtX5_wipe 0 := ⟨wl_RL_151, wm_X5_wipe, wse_X5_wipe, wi_RX5, wc_X5_wipe, ⟨by decide +kernel, by decide +kernel, by decide +kernel⟩⟩
theorem wl_RL_154 : Cond.methodLink RL 154 yX6_wipe ∈ gtb := gtb_of 1254 (by decide +kernel) (by decide +kernel)
theorem wm_X6_wipe : Cond.instanceMethod yX6_wipe ∈ gtb := gtb_of 1255 (by decide +kernel) (by decide +kernel)
theorem wse_X6_wipe : Cond.selects RX6 yX6_wipe yX6_wipe ∈ gtb := gtb_of 1256 (by decide +kernel) (by decide +kernel)
theorem wc_X6_wipe : Cond.code yX6_wipe cX6_wipe 2 (some .int) ∈ gtb := gtb_of 1257 (by decide +kernel) (by decide +kernel)
theorem cv_RL_154 : CV RL 154 mtX6_wipe 0 := ⟨wl_RL_154, wm_X6_wipe, wse_X6_wipe, wi_RX6, wc_X6_wipe, ⟨by decide +kernel, by decide +kernel, by decide +kernel⟩⟩
theorem wl_RL_155 : Cond.methodLink RL 155 yX5_text ∈ gtb := gtb_of 719 (by decide +kernel) (by decide +kernel)
theorem wm_X5_text : Cond.instanceMethod yX5_text ∈ gtb := gtb_of 720 (by decide +kernel) (by decide +kernel)
theorem wse_X5_text : Cond.selects RX5 yX5_text yX5_text ∈ gtb := gtb_of 721 (by decide +kernel) (by decide +kernel)
theorem wc_X5_text : Cond.code yX5_text cX5_text 2 (some .int) ∈ gtb := gtb_of 722 (by decide +kernel) (by decide +kernel)
theorem cv_RL_155 : CV RL 155 mtX5_text 0 := ⟨wl_RL_155, wm_X5_text, wse_X5_text, wi_RX5, wc_X5_text, ⟨by decide +kernel, by decide +kernel, by decide +kernel⟩⟩
theorem wl_RL_158 : Cond.methodLink RL 158 yX6_text ∈ gtb := gtb_of 1258 (by decide +kernel) (by decide +kernel)
theorem wm_X6_text : Cond.instanceMethod yX6_text ∈ gtb := gtb_of 1259 (by decide +kernel) (by decide +kernel)
theorem wse_X6_text : Cond.selects RX6 yX6_text yX6_text ∈ gtb := gtb_of 1260 (by decide +kernel) (by decide +kernel)
theorem wc_X6_text : Cond.code yX6_text cX6_text 2 (some .int) ∈ gtb := gtb_of 1261 (by decide +kernel) (by decide +kernel)
theorem cv_RL_158 : CV RL 158 mtX6_text 0 := ⟨wl_RL_158, wm_X6_text, wse_X6_text, wi_RX6, wc_X6_text, ⟨by decide +kernel, by decide +kernel, by decide +kernel⟩⟩
theorem wl_RL_159 : Cond.methodLink RL 159 yX5_hold ∈ gtb := gtb_of 844 (by decide +kernel) (by decide +kernel)
theorem wm_X5_hold : Cond.instanceMethod yX5_hold ∈ gtb := gtb_of 845 (by decide +kernel) (by decide +kernel)
theorem wse_X5_hold : Cond.selects RX5 yX5_hold yX5_hold ∈ gtb := gtb_of 846 (by decide +kernel) (by decide +kernel)
theorem wc_X5_hold : Cond.code yX5_hold cX5_hold 3 (some .int) ∈ gtb := gtb_of 847 (by decide +kernel) (by decide +kernel)
theorem cv_RL_159 : CV RL 159 mtX5_hold 2 := ⟨wl_RL_159, wm_X5_hold, wse_X5_hold, wi_RX5, wc_X5_hold, ⟨by decide +kernel, by decide +kernel, by decide +kernel⟩⟩
theorem wl_RL_162 : Cond.methodLink RL 162 yX6_hold ∈ gtb := gtb_of 1328 (by decide +kernel) (by decide +kernel)
theorem wm_X6_hold : Cond.instanceMethod yX6_hold ∈ gtb := gtb_of 1329 (by decide +kernel) (by decide +kernel)
theorem wse_X6_hold : Cond.selects RX6 yX6_hold yX6_hold ∈ gtb := gtb_of 1330 (by decide +kernel) (by decide +kernel)
theorem wc_X6_hold : Cond.code yX6_hold cX6_hold 3 (some .int) ∈ gtb := gtb_of 1331 (by decide +kernel) (by decide +kernel)
theorem cv_RL_162 : CV RL 162 mtX6_hold 2 := ⟨wl_RL_162, wm_X6_hold, wse_X6_hold, wi_RX6, wc_X6_hold, ⟨by decide +kernel, by decide +kernel, by decide +kernel⟩⟩
theorem wl_RL_163 : Cond.methodLink RL 163 yX5_as ∈ gtb := gtb_of 848 (by decide +kernel) (by decide +kernel)
theorem wm_X5_as : Cond.instanceMethod yX5_as ∈ gtb := gtb_of 849 (by decide +kernel) (by decide +kernel)
theorem wse_X5_as : Cond.selects RX5 yX5_as yX5_as ∈ gtb := gtb_of 850 (by decide +kernel) (by decide +kernel)
theorem wc_X5_as : Cond.code yX5_as cX5_as 4 (some .int) ∈ gtb := gtb_of 851 (by decide +kernel) (by decide +kernel)
theorem cv_RL_163 : CV RL 163 mtX5_as 2 := ⟨wl_RL_163, wm_X5_as, wse_X5_as, wi_RX5, wc_X5_as, ⟨by decide +kernel, by decide +kernel, by decide +kernel⟩⟩
theorem wl_RL_166 : Cond.methodLink RL 166 yX6_as ∈ gtb := gtb_of 1332 (by decide +kernel) (by decide +kernel)
theorem wm_X6_as : Cond.instanceMethod yX6_as ∈ gtb := gtb_of 1333 (by decide +kernel) (by decide +kernel)
theorem wse_X6_as : Cond.selects RX6 yX6_as yX6_as ∈ gtb := gtb_of 1334 (by decide +kernel) (by decide +kernel)
theorem wc_X6_as : Cond.code yX6_as cX6_as 6 (some .int) ∈ gtb := gtb_of 1335 (by decide +kernel) (by decide +kernel)
theorem cv_RL_166 : CV RL 166 mtX6_as 2 := ⟨wl_RL_166, wm_X6_as, wse_X6_as, wi_RX6, wc_X6_as, ⟨by decide +kernel, by decide +kernel, by decide +kernel⟩⟩
theorem wl_RL_167 : Cond.methodLink RL 167 yX5_sheet ∈ gtb := gtb_of 858 (by decide +kernel) (by decide +kernel)
theorem wm_X5_sheet : Cond.instanceMethod yX5_sheet ∈ gtb := gtb_of 859 (by decide +kernel) (by decide +kernel)
theorem wse_X5_sheet : Cond.selects RX5 yX5_sheet yX5_sheet ∈ gtb := gtb_of 860 (by decide +kernel) (by decide +kernel)
theorem wc_X5_sheet : Cond.code yX5_sheet cX5_sheet 4 (some .int) ∈ gtb := gtb_of 861 (by decide +kernel) (by decide +kernel)
theorem cv_RL_167 : CV RL 167 mtX5_sheet 3 := ⟨wl_RL_167, wm_X5_sheet, wse_X5_sheet, wi_RX5, wc_X5_sheet, ⟨by decide +kernel, by decide +kernel, by decide +kernel⟩⟩
theorem wl_RL_170 : Cond.methodLink RL 170 yX6_sheet ∈ gtb := gtb_of 1338 (by decide +kernel) (by decide +kernel)
theorem wm_X6_sheet : Cond.instanceMethod yX6_sheet ∈ gtb := gtb_of 1339 (by decide +kernel) (by decide +kernel)
theorem wse_X6_sheet : Cond.selects RX6 yX6_sheet yX6_sheet ∈ gtb := gtb_of 1340 (by decide +kernel) (by decide +kernel)
theorem wc_X6_sheet : Cond.code yX6_sheet cX6_sheet 5 (some .int) ∈ gtb := gtb_of 1341 (by decide +kernel) (by decide +kernel)
theorem cv_RL_170 : CV RL 170 mtX6_sheet 3 := ⟨wl_RL_170, wm_X6_sheet, wse_X6_sheet, wi_RX6, wc_X6_sheet, ⟨by decide +kernel, by decide +kernel, by decide +kernel⟩⟩
theorem wl_RL_171 : Cond.methodLink RL 171 yX5_write ∈ gtb := gtb_of 866 (by decide +kernel) (by decide +kernel)
theorem wm_X5_write : Cond.instanceMethod yX5_write ∈ gtb := gtb_of 867 (by decide +kernel) (by decide +kernel)
theorem wse_X5_write : Cond.selects RX5 yX5_write yX5_write ∈ gtb := gtb_of 868 (by decide +kernel) (by decide +kernel)
theorem wc_X5_write : Cond.code yX5_write cX5_write 4 (some .int) ∈ gtb := gtb_of 869 (by decide +kernel) (by decide +kernel)
theorem cv_RL_171 : CV RL 171 mtX5_write 3 := ⟨wl_RL_171, wm_X5_write, wse_X5_write, wi_RX5, wc_X5_write, ⟨by decide +kernel, by decide +kernel, by decide +kernel⟩⟩
theorem wl_RL_174 : Cond.methodLink RL 174 yX6_write ∈ gtb := gtb_of 1347 (by decide +kernel) (by decide +kernel)
theorem wm_X6_write : Cond.instanceMethod yX6_write ∈ gtb := gtb_of 1348 (by decide +kernel) (by decide +kernel)
theorem wse_X6_write : Cond.selects RX6 yX6_write yX6_write ∈ gtb := gtb_of 1349 (by decide +kernel) (by decide +kernel)
theorem wc_X6_write : Cond.code yX6_write cX6_write 5 (some .int) ∈ gtb := gtb_of 1350 (by decide +kernel) (by decide +kernel)
theorem cv_RL_174 : CV RL 174 mtX6_write 3 := ⟨wl_RL_174, wm_X6_write, wse_X6_write, wi_RX6, wc_X6_write, ⟨by decide +kernel, by decide +kernel, by decide +kernel⟩⟩
theorem wl_RL_175 : Cond.methodLink RL 175 yX5_copy ∈ gtb := gtb_of 874 (by decide +kernel) (by decide +kernel)
theorem wm_X5_copy : Cond.instanceMethod yX5_copy ∈ gtb := gtb_of 875 (by decide +kernel) (by decide +kernel)
theorem wse_X5_copy : Cond.selects RX5 yX5_copy yX5_copy ∈ gtb := gtb_of 876 (by decide +kernel) (by decide +kernel)
theorem wc_X5_copy : Cond.code yX5_copy cX5_copy 6 (some .int) ∈ gtb := gtb_of 877 (by decide +kernel) (by decide +kernel)
theorem cv_RL_175 : CV RL 175 mtX5_copy 5 := ⟨wl_RL_175, wm_X5_copy, wse_X5_copy, wi_RX5, wc_X5_copy, ⟨by decide +kernel, by decide +kernel, by decide +kernel⟩⟩
theorem wl_RL_179 : Cond.methodLink RL 179 yX6_copy ∈ gtb := gtb_of 1358 (by decide +kernel) (by decide +kernel)
theorem wm_X6_copy : Cond.instanceMethod yX6_copy ∈ gtb := gtb_of 1359 (by decide +kernel) (by decide +kernel)
theorem wse_X6_copy : Cond.selects RX6 yX6_copy yX6_copy ∈ gtb := gtb_of 1360 (by decide +kernel) (by decide +kernel)
theorem wc_X6_copy : Cond.code yX6_copy cX6_copy 7 (some .int) ∈ gtb := gtb_of 1361 (by decide +kernel) (by decide +kernel)
theorem cv_RL_179 : CV RL 179 mtX6_copy 5 := ⟨wl_RL_179, wm_X6_copy, wse_X6_copy, wi_RX6, wc_X6_copy, ⟨by decide +kernel, by decide +kernel, by decide +kernel⟩⟩
theorem wl_RL_180 : Cond.methodLink RL 180 yX5_load ∈ gtb := gtb_of 883 (by decide +kernel) (by decide +kernel)
theorem wm_X5_load : Cond.instanceMethod yX5_load ∈ gtb := gtb_of 884 (by decide +kernel) (by decide +kernel)
theorem wse_X5_load : Cond.selects RX5 yX5_load yX5_load ∈ gtb := gtb_of 885 (by decide +kernel) (by decide +kernel)
theorem wc_X5_load : Cond.code yX5_load cX5_load 5 (some .int) ∈ gtb := gtb_of 886 (by decide +kernel) (by decide +kernel)
theorem cv_RL_180 : CV RL 180 mtX5_load 1 := ⟨wl_RL_180, wm_X5_load, wse_X5_load, wi_RX5, wc_X5_load, ⟨by decide +kernel, by decide +kernel, by decide +kernel⟩⟩
theorem wl_RL_183 : Cond.methodLink RL 183 yX6_load ∈ gtb := gtb_of 1362 (by decide +kernel) (by decide +kernel)
theorem wm_X6_load : Cond.instanceMethod yX6_load ∈ gtb := gtb_of 1363 (by decide +kernel) (by decide +kernel)
theorem wse_X6_load : Cond.selects RX6 yX6_load yX6_load ∈ gtb := gtb_of 1364 (by decide +kernel) (by decide +kernel)
theorem wc_X6_load : Cond.code yX6_load cX6_load 4 (some .int) ∈ gtb := gtb_of 1365 (by decide +kernel) (by decide +kernel)
theorem cv_RL_183 : CV RL 183 mtX6_load 1 := ⟨wl_RL_183, wm_X6_load, wse_X6_load, wi_RX6, wc_X6_load, ⟨by decide +kernel, by decide +kernel, by decide +kernel⟩⟩
theorem wl_RL_184 : Cond.methodLink RL 184 yX5_image ∈ gtb := gtb_of 888 (by decide +kernel) (by decide +kernel)
theorem wm_X5_image : Cond.instanceMethod yX5_image ∈ gtb := gtb_of 889 (by decide +kernel) (by decide +kernel)
theorem wse_X5_image : Cond.selects RX5 yX5_image yX5_image ∈ gtb := gtb_of 890 (by decide +kernel) (by decide +kernel)
theorem wc_X5_image : Cond.code yX5_image cX5_image 1 (some .int) ∈ gtb := gtb_of 891 (by decide +kernel) (by decide +kernel)
theorem cv_RL_184 : CV RL 184 mtX5_image 0 := ⟨wl_RL_184, wm_X5_image, wse_X5_image, wi_RX5, wc_X5_image, ⟨by decide +kernel, by decide +kernel, by decide +kernel⟩⟩
theorem wl_RL_187 : Cond.methodLink RL 187 yX6_image ∈ gtb := gtb_of 1378 (by decide +kernel) (by decide +kernel)
theorem wm_X6_image : Cond.instanceMethod yX6_image ∈ gtb := gtb_of 1379 (by decide +kernel) (by decide +kernel)
theorem wse_X6_image : Cond.selects RX6 yX6_image yX6_image ∈ gtb := gtb_of 1380 (by decide +kernel) (by decide +kernel)
theorem wc_X6_image : Cond.code yX6_image cX6_image 2 (some .int) ∈ gtb := gtb_of 1381 (by decide +kernel) (by decide +kernel)
theorem cv_RL_187 : CV RL 187 mtX6_image 0 := ⟨wl_RL_187, wm_X6_image, wse_X6_image, wi_RX6, wc_X6_image, ⟨by decide +kernel, by decide +kernel, by decide +kernel⟩⟩
theorem wl_RL_188 : Cond.methodLink RL 188 yX5_undo ∈ gtb := gtb_of 892 (by decide +kernel) (by decide +kernel)
theorem wm_X5_undo : Cond.instanceMethod yX5_undo ∈ gtb := gtb_of 893 (by decide +kernel) (by decide +kernel)
theorem wse_X5_undo : Cond.selects RX5 yX5_undo yX5_undo ∈ gtb := gtb_of 894 (by decide +kernel) (by decide +kernel)
theorem wc_X5_undo : Cond.code yX5_undo cX5_undo 1 (some .int) ∈ gtb := gtb_of 895 (by decide +kernel) (by decide +kernel)
theorem cv_RL_188 : CV RL 188 mtX5_undo 0 := ⟨wl_RL_188, wm_X5_undo, wse_X5_undo, wi_RX5, wc_X5_undo, ⟨by decide +kernel, by decide +kernel, by decide +kernel⟩⟩
theorem wl_RL_191 : Cond.methodLink RL 191 yX6_undo ∈ gtb := gtb_of 1382 (by decide +kernel) (by decide +kernel)
theorem wm_X6_undo : Cond.instanceMethod yX6_undo ∈ gtb := gtb_of 1383 (by decide +kernel) (by decide +kernel)
theorem wse_X6_undo : Cond.selects RX6 yX6_undo yX6_undo ∈ gtb := gtb_of 1384 (by decide +kernel) (by decide +kernel)
theorem wc_X6_undo : Cond.code yX6_undo cX6_undo 2 (some .int) ∈ gtb := gtb_of 1385 (by decide +kernel) (by decide +kernel)
theorem cv_RL_191 : CV RL 191 mtX6_undo 0 := ⟨wl_RL_191, wm_X6_undo, wse_X6_undo, wi_RX6, wc_X6_undo, ⟨by decide +kernel, by decide +kernel, by decide +kernel⟩⟩
theorem wl_RL_192 : Cond.methodLink RL 192 yX5_tear ∈ gtb := gtb_of 896 (by decide +kernel) (by decide +kernel)
theorem wm_X5_tear : Cond.instanceMethod yX5_tear ∈ gtb := gtb_of 897 (by decide +kernel) (by decide +kernel)
theorem wse_X5_tear : Cond.selects RX5 yX5_tear yX5_tear ∈ gtb := gtb_of 898 (by decide +kernel) (by decide +kernel)
theorem wc_X5_tear : Cond.code yX5_tear cX5_tear 2 (some .int) ∈ gtb := gtb_of 899 (by decide +kernel) (by decide +kernel)
theorem cv_RL_192 : CV RL 192 mtX5_tear 0 := ⟨wl_RL_192, wm_X5_tear, wse_X5_tear, wi_RX5, wc_X5_tear, ⟨by decide +kernel, by decide +kernel, by decide +kernel⟩⟩
theorem wl_RL_195 : Cond.methodLink RL 195 yX6_tear ∈ gtb := gtb_of 1386 (by decide +kernel) (by decide +kernel)
theorem wm_X6_tear : Cond.instanceMethod yX6_tear ∈ gtb := gtb_of 1387 (by decide +kernel) (by decide +kernel)
theorem wse_X6_tear : Cond.selects RX6 yX6_tear yX6_tear ∈ gtb := gtb_of 1388 (by decide +kernel) (by decide +kernel)
theorem wc_X6_tear : Cond.code yX6_tear cX6_tear 2 (some .int) ∈ gtb := gtb_of 1389 (by decide +kernel) (by decide +kernel)
theorem cv_RL_195 : CV RL 195 mtX6_tear 0 := ⟨wl_RL_195, wm_X6_tear, wse_X6_tear, wi_RX6, wc_X6_tear, ⟨by decide +kernel, by decide +kernel, by decide +kernel⟩⟩
theorem wl_RL_196 : Cond.methodLink RL 196 yX5_count ∈ gtb := gtb_of 900 (by decide +kernel) (by decide +kernel)
theorem wm_X5_count : Cond.instanceMethod yX5_count ∈ gtb := gtb_of 901 (by decide +kernel) (by decide +kernel)
theorem wse_X5_count : Cond.selects RX5 yX5_count yX5_count ∈ gtb := gtb_of 902 (by decide +kernel) (by decide +kernel)
theorem wc_X5_count : Cond.code yX5_count cX5_count 2 (some .int) ∈ gtb := gtb_of 903 (by decide +kernel) (by decide +kernel)
theorem cv_RL_196 : CV RL 196 mtX5_count 1 := ⟨wl_RL_196, wm_X5_count, wse_X5_count, wi_RX5, wc_X5_count, ⟨by decide +kernel, by decide +kernel, by decide +kernel⟩⟩
theorem wl_RL_199 : Cond.methodLink RL 199 yX6_count ∈ gtb := gtb_of 1390 (by decide +kernel) (by decide +kernel)
theorem wm_X6_count : Cond.instanceMethod yX6_count ∈ gtb := gtb_of 1391 (by decide +kernel) (by decide +kernel)
theorem wse_X6_count : Cond.selects RX6 yX6_count yX6_count ∈ gtb := gtb_of 1392 (by decide +kernel) (by decide +kernel)
theorem wc_X6_count : Cond.code yX6_count cX6_count 2 (some .int) ∈ gtb := gtb_of 1393 (by decide +kernel) (by decide +kernel)
theorem cv_RL_199 : CV RL 199 mtX6_count 1 := ⟨wl_RL_199, wm_X6_count, wse_X6_count, wi_RX6, wc_X6_count, ⟨by decide +kernel, by decide +kernel, by decide +kernel⟩⟩
theorem wl_RL_200 : Cond.methodLink RL 200 yX5_status ∈ gtb := gtb_of 912 (by decide +kernel) (by decide +kernel)
theorem wm_X5_status : Cond.instanceMethod yX5_status ∈ gtb := gtb_of 913 (by decide +kernel) (by decide +kernel)
theorem wse_X5_status : Cond.selects RX5 yX5_status yX5_status ∈ gtb := gtb_of 914 (by decide +kernel) (by decide +kernel)
theorem wc_X5_status : Cond.code yX5_status cX5_status 4 (some .int) ∈ gtb := gtb_of 915 (by decide +kernel) (by decide +kernel)
theorem cv_RL_200 : CV RL 200 mtX5_status 1 := ⟨wl_RL_200, wm_X5_status, wse_X5_status, wi_RX5, wc_X5_status, ⟨by decide +kernel, by decide +kernel, by decide +kernel⟩⟩
theorem wl_RL_203 : Cond.methodLink RL 203 yX6_status ∈ gtb := gtb_of 1402 (by decide +kernel) (by decide +kernel)
theorem wm_X6_status : Cond.instanceMethod yX6_status ∈ gtb := gtb_of 1403 (by decide +kernel) (by decide +kernel)
theorem wse_X6_status : Cond.selects RX6 yX6_status yX6_status ∈ gtb := gtb_of 1404 (by decide +kernel) (by decide +kernel)
theorem wc_X6_status : Cond.code yX6_status cX6_status 4 (some .int) ∈ gtb := gtb_of 1405 (by decide +kernel) (by decide +kernel)
theorem cv_RL_203 : CV RL 203 mtX6_status 1 := ⟨wl_RL_203, wm_X6_status, wse_X6_status, wi_RX6, wc_X6_status, ⟨by decide +kernel, by decide +kernel, by decide +kernel⟩⟩
theorem dL_law_0 : decode cL_law 0 = .ok (.new 7, 3) := by decide +kernel
theorem dL_law_3 : decode cL_law 3 = .ok (.dup, 1) := by decide +kernel
theorem dL_law_4 : decode cL_law 4 = .ok (.invokespecial 9, 3) := by decide +kernel
theorem dL_law_7 : decode cL_law 7 = .ok (.astore_n 1, 1) := by decide +kernel
theorem dL_law_8 : decode cL_law 8 = .ok (.new 10, 3) := by decide +kernel
theorem dL_law_11 : decode cL_law 11 = .ok (.dup, 1) := by decide +kernel
theorem dL_law_12 : decode cL_law 12 = .ok (.invokespecial 12, 3) := by decide +kernel
theorem dL_law_15 : decode cL_law 15 = .ok (.astore_n 2, 1) := by decide +kernel
theorem dL_law_16 : decode cL_law 16 = .ok (.iconst 0, 1) := by decide +kernel
theorem dL_law_17 : decode cL_law 17 = .ok (.istore_n 3, 1) := by decide +kernel
theorem dL_law_18 : decode cL_law 18 = .ok (.iload_n 3, 1) := by decide +kernel
theorem dL_law_19 : decode cL_law 19 = .ok (.aload_n 0, 1) := by decide +kernel
theorem dL_law_20 : decode cL_law 20 = .ok (.arraylength, 1) := by decide +kernel
theorem dL_law_21 : decode cL_law 21 = .ok (.bipush 6, 2) := by decide +kernel
theorem dL_law_23 : decode cL_law 23 = .ok (.isub, 1) := by decide +kernel
theorem dL_law_24 : decode cL_law 24 = .ok (.if_icmp .gt 1394, 3) := by decide +kernel
theorem dL_law_27 : decode cL_law 27 = .ok (.aload_n 0, 1) := by decide +kernel
theorem dL_law_28 : decode cL_law 28 = .ok (.iload_n 3, 1) := by decide +kernel
theorem dL_law_29 : decode cL_law 29 = .ok (.iaload, 1) := by decide +kernel
theorem dL_law_30 : decode cL_law 30 = .ok (.bipush 63, 2) := by decide +kernel
theorem dL_law_32 : decode cL_law 32 = .ok (.iand, 1) := by decide +kernel
theorem dL_law_33 : decode cL_law 33 = .ok (.tableswitch 1379 0 45 #[199, 242, 275, 318, 351, 374, 397, 420, 443, 466, 479, 502, 515, 538, 561, 594, 607, 630, 643, 666, 679, 712, 735, 758, 781, 804, 827, 861, 885, 908, 931, 964, 997, 1030, 1043, 1056, 1089, 1122, 1165, 1208, 1271, 1294, 1307, 1320, 1333, 1356], 199) := by decide +kernel
theorem dL_law_232 : decode cL_law 232 = .ok (.aload_n 1, 1) := by decide +kernel
theorem dL_law_233 : decode cL_law 233 = .ok (.aload_n 0, 1) := by decide +kernel
theorem dL_law_234 : decode cL_law 234 = .ok (.iload_n 3, 1) := by decide +kernel
theorem dL_law_235 : decode cL_law 235 = .ok (.iconst 1, 1) := by decide +kernel
theorem dL_law_236 : decode cL_law 236 = .ok (.iadd, 1) := by decide +kernel
theorem dL_law_237 : decode cL_law 237 = .ok (.iaload, 1) := by decide +kernel
theorem dL_law_238 : decode cL_law 238 = .ok (.aload_n 0, 1) := by decide +kernel
theorem dL_law_239 : decode cL_law 239 = .ok (.iload_n 3, 1) := by decide +kernel
theorem dL_law_240 : decode cL_law 240 = .ok (.iconst 2, 1) := by decide +kernel
theorem dL_law_241 : decode cL_law 241 = .ok (.iadd, 1) := by decide +kernel
theorem dL_law_242 : decode cL_law 242 = .ok (.iaload, 1) := by decide +kernel
theorem dL_law_243 : decode cL_law 243 = .ok (.aload_n 0, 1) := by decide +kernel
theorem dL_law_244 : decode cL_law 244 = .ok (.iload_n 3, 1) := by decide +kernel
theorem dL_law_245 : decode cL_law 245 = .ok (.iconst 3, 1) := by decide +kernel
theorem dL_law_246 : decode cL_law 246 = .ok (.iadd, 1) := by decide +kernel
theorem dL_law_247 : decode cL_law 247 = .ok (.iaload, 1) := by decide +kernel
theorem dL_law_248 : decode cL_law 248 = .ok (.invokevirtual 13, 3) := by decide +kernel
theorem dL_law_251 : decode cL_law 251 = .ok (.aload_n 2, 1) := by decide +kernel
theorem dL_law_252 : decode cL_law 252 = .ok (.aload_n 0, 1) := by decide +kernel
theorem dL_law_253 : decode cL_law 253 = .ok (.iload_n 3, 1) := by decide +kernel
theorem dL_law_254 : decode cL_law 254 = .ok (.iconst 1, 1) := by decide +kernel
theorem dL_law_255 : decode cL_law 255 = .ok (.iadd, 1) := by decide +kernel
theorem dL_law_256 : decode cL_law 256 = .ok (.iaload, 1) := by decide +kernel
theorem dL_law_257 : decode cL_law 257 = .ok (.aload_n 0, 1) := by decide +kernel
theorem dL_law_258 : decode cL_law 258 = .ok (.iload_n 3, 1) := by decide +kernel
theorem dL_law_259 : decode cL_law 259 = .ok (.iconst 2, 1) := by decide +kernel
theorem dL_law_260 : decode cL_law 260 = .ok (.iadd, 1) := by decide +kernel
theorem dL_law_261 : decode cL_law 261 = .ok (.iaload, 1) := by decide +kernel
theorem dL_law_262 : decode cL_law 262 = .ok (.aload_n 0, 1) := by decide +kernel
theorem dL_law_263 : decode cL_law 263 = .ok (.iload_n 3, 1) := by decide +kernel
theorem dL_law_264 : decode cL_law 264 = .ok (.iconst 3, 1) := by decide +kernel
theorem dL_law_265 : decode cL_law 265 = .ok (.iadd, 1) := by decide +kernel
theorem dL_law_266 : decode cL_law 266 = .ok (.iaload, 1) := by decide +kernel
theorem dL_law_267 : decode cL_law 267 = .ok (.invokevirtual 17, 3) := by decide +kernel
theorem dL_law_270 : decode cL_law 270 = .ok (.if_icmp .eq 1142, 3) := by decide +kernel
theorem dL_law_273 : decode cL_law 273 = .ok (.iconst 0, 1) := by decide +kernel
theorem dL_law_274 : decode cL_law 274 = .ok (.ireturn, 1) := by decide +kernel
theorem dL_law_275 : decode cL_law 275 = .ok (.aload_n 1, 1) := by decide +kernel
theorem dL_law_276 : decode cL_law 276 = .ok (.aload_n 0, 1) := by decide +kernel
theorem dL_law_277 : decode cL_law 277 = .ok (.iload_n 3, 1) := by decide +kernel
theorem dL_law_278 : decode cL_law 278 = .ok (.iconst 1, 1) := by decide +kernel
theorem dL_law_279 : decode cL_law 279 = .ok (.iadd, 1) := by decide +kernel
theorem dL_law_280 : decode cL_law 280 = .ok (.iaload, 1) := by decide +kernel
theorem dL_law_281 : decode cL_law 281 = .ok (.aload_n 0, 1) := by decide +kernel
theorem dL_law_282 : decode cL_law 282 = .ok (.iload_n 3, 1) := by decide +kernel
theorem dL_law_283 : decode cL_law 283 = .ok (.iconst 2, 1) := by decide +kernel
theorem dL_law_284 : decode cL_law 284 = .ok (.iadd, 1) := by decide +kernel
theorem dL_law_285 : decode cL_law 285 = .ok (.iaload, 1) := by decide +kernel
theorem dL_law_286 : decode cL_law 286 = .ok (.invokevirtual 18, 3) := by decide +kernel
theorem dL_law_289 : decode cL_law 289 = .ok (.aload_n 2, 1) := by decide +kernel
theorem dL_law_290 : decode cL_law 290 = .ok (.aload_n 0, 1) := by decide +kernel
theorem dL_law_291 : decode cL_law 291 = .ok (.iload_n 3, 1) := by decide +kernel
theorem dL_law_292 : decode cL_law 292 = .ok (.iconst 1, 1) := by decide +kernel
theorem dL_law_293 : decode cL_law 293 = .ok (.iadd, 1) := by decide +kernel
theorem dL_law_294 : decode cL_law 294 = .ok (.iaload, 1) := by decide +kernel
theorem dL_law_295 : decode cL_law 295 = .ok (.aload_n 0, 1) := by decide +kernel
theorem dL_law_296 : decode cL_law 296 = .ok (.iload_n 3, 1) := by decide +kernel
theorem dL_law_297 : decode cL_law 297 = .ok (.iconst 2, 1) := by decide +kernel
theorem dL_law_298 : decode cL_law 298 = .ok (.iadd, 1) := by decide +kernel
theorem dL_law_299 : decode cL_law 299 = .ok (.iaload, 1) := by decide +kernel
theorem dL_law_300 : decode cL_law 300 = .ok (.invokevirtual 22, 3) := by decide +kernel
theorem dL_law_303 : decode cL_law 303 = .ok (.if_icmp .eq 1109, 3) := by decide +kernel
theorem dL_law_306 : decode cL_law 306 = .ok (.iconst 0, 1) := by decide +kernel
theorem dL_law_307 : decode cL_law 307 = .ok (.ireturn, 1) := by decide +kernel
theorem dL_law_308 : decode cL_law 308 = .ok (.aload_n 1, 1) := by decide +kernel
theorem dL_law_309 : decode cL_law 309 = .ok (.aload_n 0, 1) := by decide +kernel
theorem dL_law_310 : decode cL_law 310 = .ok (.iload_n 3, 1) := by decide +kernel
theorem dL_law_311 : decode cL_law 311 = .ok (.iconst 1, 1) := by decide +kernel
theorem dL_law_312 : decode cL_law 312 = .ok (.iadd, 1) := by decide +kernel
theorem dL_law_313 : decode cL_law 313 = .ok (.iaload, 1) := by decide +kernel
theorem dL_law_314 : decode cL_law 314 = .ok (.aload_n 0, 1) := by decide +kernel
theorem dL_law_315 : decode cL_law 315 = .ok (.iload_n 3, 1) := by decide +kernel
theorem dL_law_316 : decode cL_law 316 = .ok (.iconst 2, 1) := by decide +kernel
theorem dL_law_317 : decode cL_law 317 = .ok (.iadd, 1) := by decide +kernel
theorem dL_law_318 : decode cL_law 318 = .ok (.iaload, 1) := by decide +kernel
theorem dL_law_319 : decode cL_law 319 = .ok (.aload_n 0, 1) := by decide +kernel
theorem dL_law_320 : decode cL_law 320 = .ok (.iload_n 3, 1) := by decide +kernel
theorem dL_law_321 : decode cL_law 321 = .ok (.iconst 3, 1) := by decide +kernel
theorem dL_law_322 : decode cL_law 322 = .ok (.iadd, 1) := by decide +kernel
theorem dL_law_323 : decode cL_law 323 = .ok (.iaload, 1) := by decide +kernel
theorem dL_law_324 : decode cL_law 324 = .ok (.invokevirtual 23, 3) := by decide +kernel
theorem dL_law_327 : decode cL_law 327 = .ok (.aload_n 2, 1) := by decide +kernel
theorem dL_law_328 : decode cL_law 328 = .ok (.aload_n 0, 1) := by decide +kernel
theorem dL_law_329 : decode cL_law 329 = .ok (.iload_n 3, 1) := by decide +kernel
theorem dL_law_330 : decode cL_law 330 = .ok (.iconst 1, 1) := by decide +kernel
theorem dL_law_331 : decode cL_law 331 = .ok (.iadd, 1) := by decide +kernel
theorem dL_law_332 : decode cL_law 332 = .ok (.iaload, 1) := by decide +kernel
theorem dL_law_333 : decode cL_law 333 = .ok (.aload_n 0, 1) := by decide +kernel
theorem dL_law_334 : decode cL_law 334 = .ok (.iload_n 3, 1) := by decide +kernel
theorem dL_law_335 : decode cL_law 335 = .ok (.iconst 2, 1) := by decide +kernel
theorem dL_law_336 : decode cL_law 336 = .ok (.iadd, 1) := by decide +kernel
theorem dL_law_337 : decode cL_law 337 = .ok (.iaload, 1) := by decide +kernel
theorem dL_law_338 : decode cL_law 338 = .ok (.aload_n 0, 1) := by decide +kernel
theorem dL_law_339 : decode cL_law 339 = .ok (.iload_n 3, 1) := by decide +kernel
theorem dL_law_340 : decode cL_law 340 = .ok (.iconst 3, 1) := by decide +kernel
theorem dL_law_341 : decode cL_law 341 = .ok (.iadd, 1) := by decide +kernel
theorem dL_law_342 : decode cL_law 342 = .ok (.iaload, 1) := by decide +kernel
theorem dL_law_343 : decode cL_law 343 = .ok (.invokevirtual 26, 3) := by decide +kernel
theorem dL_law_346 : decode cL_law 346 = .ok (.if_icmp .eq 1066, 3) := by decide +kernel
theorem dL_law_349 : decode cL_law 349 = .ok (.iconst 0, 1) := by decide +kernel
theorem dL_law_350 : decode cL_law 350 = .ok (.ireturn, 1) := by decide +kernel
theorem dL_law_351 : decode cL_law 351 = .ok (.aload_n 1, 1) := by decide +kernel
theorem dL_law_352 : decode cL_law 352 = .ok (.aload_n 0, 1) := by decide +kernel
theorem dL_law_353 : decode cL_law 353 = .ok (.iload_n 3, 1) := by decide +kernel
theorem dL_law_354 : decode cL_law 354 = .ok (.iconst 1, 1) := by decide +kernel
theorem dL_law_355 : decode cL_law 355 = .ok (.iadd, 1) := by decide +kernel
theorem dL_law_356 : decode cL_law 356 = .ok (.iaload, 1) := by decide +kernel
theorem dL_law_357 : decode cL_law 357 = .ok (.aload_n 0, 1) := by decide +kernel
theorem dL_law_358 : decode cL_law 358 = .ok (.iload_n 3, 1) := by decide +kernel
theorem dL_law_359 : decode cL_law 359 = .ok (.iconst 2, 1) := by decide +kernel
theorem dL_law_360 : decode cL_law 360 = .ok (.iadd, 1) := by decide +kernel
theorem dL_law_361 : decode cL_law 361 = .ok (.iaload, 1) := by decide +kernel
theorem dL_law_362 : decode cL_law 362 = .ok (.invokevirtual 27, 3) := by decide +kernel
theorem dL_law_365 : decode cL_law 365 = .ok (.aload_n 2, 1) := by decide +kernel
theorem dL_law_366 : decode cL_law 366 = .ok (.aload_n 0, 1) := by decide +kernel
theorem dL_law_367 : decode cL_law 367 = .ok (.iload_n 3, 1) := by decide +kernel
theorem dL_law_368 : decode cL_law 368 = .ok (.iconst 1, 1) := by decide +kernel
theorem dL_law_369 : decode cL_law 369 = .ok (.iadd, 1) := by decide +kernel
theorem dL_law_370 : decode cL_law 370 = .ok (.iaload, 1) := by decide +kernel
theorem dL_law_371 : decode cL_law 371 = .ok (.aload_n 0, 1) := by decide +kernel
theorem dL_law_372 : decode cL_law 372 = .ok (.iload_n 3, 1) := by decide +kernel
theorem dL_law_373 : decode cL_law 373 = .ok (.iconst 2, 1) := by decide +kernel
theorem dL_law_374 : decode cL_law 374 = .ok (.iadd, 1) := by decide +kernel
theorem dL_law_375 : decode cL_law 375 = .ok (.iaload, 1) := by decide +kernel
theorem dL_law_376 : decode cL_law 376 = .ok (.invokevirtual 30, 3) := by decide +kernel
theorem dL_law_379 : decode cL_law 379 = .ok (.if_icmp .eq 1033, 3) := by decide +kernel
theorem dL_law_382 : decode cL_law 382 = .ok (.iconst 0, 1) := by decide +kernel
theorem dL_law_383 : decode cL_law 383 = .ok (.ireturn, 1) := by decide +kernel
theorem dL_law_384 : decode cL_law 384 = .ok (.aload_n 1, 1) := by decide +kernel
theorem dL_law_385 : decode cL_law 385 = .ok (.aload_n 0, 1) := by decide +kernel
theorem dL_law_386 : decode cL_law 386 = .ok (.iload_n 3, 1) := by decide +kernel
theorem dL_law_387 : decode cL_law 387 = .ok (.iconst 1, 1) := by decide +kernel
theorem dL_law_388 : decode cL_law 388 = .ok (.iadd, 1) := by decide +kernel
theorem dL_law_389 : decode cL_law 389 = .ok (.iaload, 1) := by decide +kernel
theorem dL_law_390 : decode cL_law 390 = .ok (.invokevirtual 31, 3) := by decide +kernel
theorem dL_law_393 : decode cL_law 393 = .ok (.aload_n 2, 1) := by decide +kernel
theorem dL_law_394 : decode cL_law 394 = .ok (.aload_n 0, 1) := by decide +kernel
theorem dL_law_395 : decode cL_law 395 = .ok (.iload_n 3, 1) := by decide +kernel
theorem dL_law_396 : decode cL_law 396 = .ok (.iconst 1, 1) := by decide +kernel
theorem dL_law_397 : decode cL_law 397 = .ok (.iadd, 1) := by decide +kernel
theorem dL_law_398 : decode cL_law 398 = .ok (.iaload, 1) := by decide +kernel
theorem dL_law_399 : decode cL_law 399 = .ok (.invokevirtual 35, 3) := by decide +kernel
theorem dL_law_402 : decode cL_law 402 = .ok (.if_icmp .eq 1010, 3) := by decide +kernel
theorem dL_law_405 : decode cL_law 405 = .ok (.iconst 0, 1) := by decide +kernel
theorem dL_law_406 : decode cL_law 406 = .ok (.ireturn, 1) := by decide +kernel
theorem dL_law_407 : decode cL_law 407 = .ok (.aload_n 1, 1) := by decide +kernel
theorem dL_law_408 : decode cL_law 408 = .ok (.aload_n 0, 1) := by decide +kernel
theorem dL_law_409 : decode cL_law 409 = .ok (.iload_n 3, 1) := by decide +kernel
theorem dL_law_410 : decode cL_law 410 = .ok (.iconst 1, 1) := by decide +kernel
theorem dL_law_411 : decode cL_law 411 = .ok (.iadd, 1) := by decide +kernel
theorem dL_law_412 : decode cL_law 412 = .ok (.iaload, 1) := by decide +kernel
theorem dL_law_413 : decode cL_law 413 = .ok (.invokevirtual 36, 3) := by decide +kernel
theorem dL_law_416 : decode cL_law 416 = .ok (.aload_n 2, 1) := by decide +kernel
theorem dL_law_417 : decode cL_law 417 = .ok (.aload_n 0, 1) := by decide +kernel
theorem dL_law_418 : decode cL_law 418 = .ok (.iload_n 3, 1) := by decide +kernel
theorem dL_law_419 : decode cL_law 419 = .ok (.iconst 1, 1) := by decide +kernel
theorem dL_law_420 : decode cL_law 420 = .ok (.iadd, 1) := by decide +kernel
theorem dL_law_421 : decode cL_law 421 = .ok (.iaload, 1) := by decide +kernel
theorem dL_law_422 : decode cL_law 422 = .ok (.invokevirtual 39, 3) := by decide +kernel
theorem dL_law_425 : decode cL_law 425 = .ok (.if_icmp .eq 987, 3) := by decide +kernel
theorem dL_law_428 : decode cL_law 428 = .ok (.iconst 0, 1) := by decide +kernel
theorem dL_law_429 : decode cL_law 429 = .ok (.ireturn, 1) := by decide +kernel
theorem dL_law_430 : decode cL_law 430 = .ok (.aload_n 1, 1) := by decide +kernel
theorem dL_law_431 : decode cL_law 431 = .ok (.aload_n 0, 1) := by decide +kernel
theorem dL_law_432 : decode cL_law 432 = .ok (.iload_n 3, 1) := by decide +kernel
theorem dL_law_433 : decode cL_law 433 = .ok (.iconst 1, 1) := by decide +kernel
theorem dL_law_434 : decode cL_law 434 = .ok (.iadd, 1) := by decide +kernel
theorem dL_law_435 : decode cL_law 435 = .ok (.iaload, 1) := by decide +kernel
theorem dL_law_436 : decode cL_law 436 = .ok (.invokevirtual 40, 3) := by decide +kernel
theorem dL_law_439 : decode cL_law 439 = .ok (.aload_n 2, 1) := by decide +kernel
theorem dL_law_440 : decode cL_law 440 = .ok (.aload_n 0, 1) := by decide +kernel
theorem dL_law_441 : decode cL_law 441 = .ok (.iload_n 3, 1) := by decide +kernel
theorem dL_law_442 : decode cL_law 442 = .ok (.iconst 1, 1) := by decide +kernel
theorem dL_law_443 : decode cL_law 443 = .ok (.iadd, 1) := by decide +kernel
theorem dL_law_444 : decode cL_law 444 = .ok (.iaload, 1) := by decide +kernel
theorem dL_law_445 : decode cL_law 445 = .ok (.invokevirtual 43, 3) := by decide +kernel
theorem dL_law_448 : decode cL_law 448 = .ok (.if_icmp .eq 964, 3) := by decide +kernel
theorem dL_law_451 : decode cL_law 451 = .ok (.iconst 0, 1) := by decide +kernel
theorem dL_law_452 : decode cL_law 452 = .ok (.ireturn, 1) := by decide +kernel
theorem dL_law_453 : decode cL_law 453 = .ok (.aload_n 1, 1) := by decide +kernel
theorem dL_law_454 : decode cL_law 454 = .ok (.aload_n 0, 1) := by decide +kernel
theorem dL_law_455 : decode cL_law 455 = .ok (.iload_n 3, 1) := by decide +kernel
theorem dL_law_456 : decode cL_law 456 = .ok (.iconst 1, 1) := by decide +kernel
theorem dL_law_457 : decode cL_law 457 = .ok (.iadd, 1) := by decide +kernel
theorem dL_law_458 : decode cL_law 458 = .ok (.iaload, 1) := by decide +kernel
theorem dL_law_459 : decode cL_law 459 = .ok (.invokevirtual 44, 3) := by decide +kernel
theorem dL_law_462 : decode cL_law 462 = .ok (.aload_n 2, 1) := by decide +kernel
theorem dL_law_463 : decode cL_law 463 = .ok (.aload_n 0, 1) := by decide +kernel
theorem dL_law_464 : decode cL_law 464 = .ok (.iload_n 3, 1) := by decide +kernel
theorem dL_law_465 : decode cL_law 465 = .ok (.iconst 1, 1) := by decide +kernel
theorem dL_law_466 : decode cL_law 466 = .ok (.iadd, 1) := by decide +kernel
theorem dL_law_467 : decode cL_law 467 = .ok (.iaload, 1) := by decide +kernel
theorem dL_law_468 : decode cL_law 468 = .ok (.invokevirtual 47, 3) := by decide +kernel
theorem dL_law_471 : decode cL_law 471 = .ok (.if_icmp .eq 941, 3) := by decide +kernel
theorem dL_law_474 : decode cL_law 474 = .ok (.iconst 0, 1) := by decide +kernel
theorem dL_law_475 : decode cL_law 475 = .ok (.ireturn, 1) := by decide +kernel
theorem dL_law_476 : decode cL_law 476 = .ok (.aload_n 1, 1) := by decide +kernel
theorem dL_law_477 : decode cL_law 477 = .ok (.aload_n 0, 1) := by decide +kernel
theorem dL_law_478 : decode cL_law 478 = .ok (.iload_n 3, 1) := by decide +kernel
theorem dL_law_479 : decode cL_law 479 = .ok (.iconst 1, 1) := by decide +kernel
theorem dL_law_480 : decode cL_law 480 = .ok (.iadd, 1) := by decide +kernel
theorem dL_law_481 : decode cL_law 481 = .ok (.iaload, 1) := by decide +kernel
theorem dL_law_482 : decode cL_law 482 = .ok (.invokevirtual 48, 3) := by decide +kernel
theorem dL_law_485 : decode cL_law 485 = .ok (.aload_n 2, 1) := by decide +kernel
theorem dL_law_486 : decode cL_law 486 = .ok (.aload_n 0, 1) := by decide +kernel
theorem dL_law_487 : decode cL_law 487 = .ok (.iload_n 3, 1) := by decide +kernel
theorem dL_law_488 : decode cL_law 488 = .ok (.iconst 1, 1) := by decide +kernel
theorem dL_law_489 : decode cL_law 489 = .ok (.iadd, 1) := by decide +kernel
theorem dL_law_490 : decode cL_law 490 = .ok (.iaload, 1) := by decide +kernel
theorem dL_law_491 : decode cL_law 491 = .ok (.invokevirtual 51, 3) := by decide +kernel
theorem dL_law_494 : decode cL_law 494 = .ok (.if_icmp .eq 918, 3) := by decide +kernel
theorem dL_law_497 : decode cL_law 497 = .ok (.iconst 0, 1) := by decide +kernel
theorem dL_law_498 : decode cL_law 498 = .ok (.ireturn, 1) := by decide +kernel
theorem dL_law_499 : decode cL_law 499 = .ok (.aload_n 1, 1) := by decide +kernel
theorem dL_law_500 : decode cL_law 500 = .ok (.invokevirtual 52, 3) := by decide +kernel
theorem dL_law_503 : decode cL_law 503 = .ok (.aload_n 2, 1) := by decide +kernel
theorem dL_law_504 : decode cL_law 504 = .ok (.invokevirtual 56, 3) := by decide +kernel
theorem dL_law_507 : decode cL_law 507 = .ok (.if_icmp .eq 905, 3) := by decide +kernel
theorem dL_law_510 : decode cL_law 510 = .ok (.iconst 0, 1) := by decide +kernel
theorem dL_law_511 : decode cL_law 511 = .ok (.ireturn, 1) := by decide +kernel
theorem dL_law_512 : decode cL_law 512 = .ok (.aload_n 1, 1) := by decide +kernel
theorem dL_law_513 : decode cL_law 513 = .ok (.aload_n 0, 1) := by decide +kernel
theorem dL_law_514 : decode cL_law 514 = .ok (.iload_n 3, 1) := by decide +kernel
theorem dL_law_515 : decode cL_law 515 = .ok (.iconst 1, 1) := by decide +kernel
theorem dL_law_516 : decode cL_law 516 = .ok (.iadd, 1) := by decide +kernel
theorem dL_law_517 : decode cL_law 517 = .ok (.iaload, 1) := by decide +kernel
theorem dL_law_518 : decode cL_law 518 = .ok (.invokevirtual 57, 3) := by decide +kernel
theorem dL_law_521 : decode cL_law 521 = .ok (.aload_n 2, 1) := by decide +kernel
theorem dL_law_522 : decode cL_law 522 = .ok (.aload_n 0, 1) := by decide +kernel
theorem dL_law_523 : decode cL_law 523 = .ok (.iload_n 3, 1) := by decide +kernel
theorem dL_law_524 : decode cL_law 524 = .ok (.iconst 1, 1) := by decide +kernel
theorem dL_law_525 : decode cL_law 525 = .ok (.iadd, 1) := by decide +kernel
theorem dL_law_526 : decode cL_law 526 = .ok (.iaload, 1) := by decide +kernel
theorem dL_law_527 : decode cL_law 527 = .ok (.invokevirtual 60, 3) := by decide +kernel
theorem dL_law_530 : decode cL_law 530 = .ok (.if_icmp .eq 882, 3) := by decide +kernel
theorem dL_law_533 : decode cL_law 533 = .ok (.iconst 0, 1) := by decide +kernel
theorem dL_law_534 : decode cL_law 534 = .ok (.ireturn, 1) := by decide +kernel
theorem dL_law_535 : decode cL_law 535 = .ok (.aload_n 1, 1) := by decide +kernel
theorem dL_law_536 : decode cL_law 536 = .ok (.invokevirtual 61, 3) := by decide +kernel
theorem dL_law_539 : decode cL_law 539 = .ok (.aload_n 2, 1) := by decide +kernel
theorem dL_law_540 : decode cL_law 540 = .ok (.invokevirtual 64, 3) := by decide +kernel
theorem dL_law_543 : decode cL_law 543 = .ok (.if_icmp .eq 869, 3) := by decide +kernel
theorem dL_law_546 : decode cL_law 546 = .ok (.iconst 0, 1) := by decide +kernel
theorem dL_law_547 : decode cL_law 547 = .ok (.ireturn, 1) := by decide +kernel
theorem dL_law_548 : decode cL_law 548 = .ok (.aload_n 1, 1) := by decide +kernel
theorem dL_law_549 : decode cL_law 549 = .ok (.aload_n 0, 1) := by decide +kernel
theorem dL_law_550 : decode cL_law 550 = .ok (.iload_n 3, 1) := by decide +kernel
theorem dL_law_551 : decode cL_law 551 = .ok (.iconst 1, 1) := by decide +kernel
theorem dL_law_552 : decode cL_law 552 = .ok (.iadd, 1) := by decide +kernel
theorem dL_law_553 : decode cL_law 553 = .ok (.iaload, 1) := by decide +kernel
theorem dL_law_554 : decode cL_law 554 = .ok (.invokevirtual 65, 3) := by decide +kernel
theorem dL_law_557 : decode cL_law 557 = .ok (.aload_n 2, 1) := by decide +kernel
theorem dL_law_558 : decode cL_law 558 = .ok (.aload_n 0, 1) := by decide +kernel
theorem dL_law_559 : decode cL_law 559 = .ok (.iload_n 3, 1) := by decide +kernel
theorem dL_law_560 : decode cL_law 560 = .ok (.iconst 1, 1) := by decide +kernel
theorem dL_law_561 : decode cL_law 561 = .ok (.iadd, 1) := by decide +kernel
theorem dL_law_562 : decode cL_law 562 = .ok (.iaload, 1) := by decide +kernel
theorem dL_law_563 : decode cL_law 563 = .ok (.invokevirtual 68, 3) := by decide +kernel
theorem dL_law_566 : decode cL_law 566 = .ok (.if_icmp .eq 846, 3) := by decide +kernel
theorem dL_law_569 : decode cL_law 569 = .ok (.iconst 0, 1) := by decide +kernel
theorem dL_law_570 : decode cL_law 570 = .ok (.ireturn, 1) := by decide +kernel
theorem dL_law_571 : decode cL_law 571 = .ok (.aload_n 1, 1) := by decide +kernel
theorem dL_law_572 : decode cL_law 572 = .ok (.aload_n 0, 1) := by decide +kernel
theorem dL_law_573 : decode cL_law 573 = .ok (.iload_n 3, 1) := by decide +kernel
theorem dL_law_574 : decode cL_law 574 = .ok (.iconst 1, 1) := by decide +kernel
theorem dL_law_575 : decode cL_law 575 = .ok (.iadd, 1) := by decide +kernel
theorem dL_law_576 : decode cL_law 576 = .ok (.iaload, 1) := by decide +kernel
theorem dL_law_577 : decode cL_law 577 = .ok (.invokevirtual 69, 3) := by decide +kernel
theorem dL_law_580 : decode cL_law 580 = .ok (.aload_n 2, 1) := by decide +kernel
theorem dL_law_581 : decode cL_law 581 = .ok (.aload_n 0, 1) := by decide +kernel
theorem dL_law_582 : decode cL_law 582 = .ok (.iload_n 3, 1) := by decide +kernel
theorem dL_law_583 : decode cL_law 583 = .ok (.iconst 1, 1) := by decide +kernel
theorem dL_law_584 : decode cL_law 584 = .ok (.iadd, 1) := by decide +kernel
theorem dL_law_585 : decode cL_law 585 = .ok (.iaload, 1) := by decide +kernel
theorem dL_law_586 : decode cL_law 586 = .ok (.invokevirtual 72, 3) := by decide +kernel
theorem dL_law_589 : decode cL_law 589 = .ok (.if_icmp .eq 823, 3) := by decide +kernel
theorem dL_law_592 : decode cL_law 592 = .ok (.iconst 0, 1) := by decide +kernel
theorem dL_law_593 : decode cL_law 593 = .ok (.ireturn, 1) := by decide +kernel
theorem dL_law_594 : decode cL_law 594 = .ok (.aload_n 1, 1) := by decide +kernel
theorem dL_law_595 : decode cL_law 595 = .ok (.aload_n 0, 1) := by decide +kernel
theorem dL_law_596 : decode cL_law 596 = .ok (.iload_n 3, 1) := by decide +kernel
theorem dL_law_597 : decode cL_law 597 = .ok (.iconst 1, 1) := by decide +kernel
theorem dL_law_598 : decode cL_law 598 = .ok (.iadd, 1) := by decide +kernel
theorem dL_law_599 : decode cL_law 599 = .ok (.iaload, 1) := by decide +kernel
theorem dL_law_600 : decode cL_law 600 = .ok (.aload_n 0, 1) := by decide +kernel
theorem dL_law_601 : decode cL_law 601 = .ok (.iload_n 3, 1) := by decide +kernel
theorem dL_law_602 : decode cL_law 602 = .ok (.iconst 2, 1) := by decide +kernel
theorem dL_law_603 : decode cL_law 603 = .ok (.iadd, 1) := by decide +kernel
theorem dL_law_604 : decode cL_law 604 = .ok (.iaload, 1) := by decide +kernel
theorem dL_law_605 : decode cL_law 605 = .ok (.invokevirtual 73, 3) := by decide +kernel
theorem dL_law_608 : decode cL_law 608 = .ok (.aload_n 2, 1) := by decide +kernel
theorem dL_law_609 : decode cL_law 609 = .ok (.aload_n 0, 1) := by decide +kernel
theorem dL_law_610 : decode cL_law 610 = .ok (.iload_n 3, 1) := by decide +kernel
theorem dL_law_611 : decode cL_law 611 = .ok (.iconst 1, 1) := by decide +kernel
theorem dL_law_612 : decode cL_law 612 = .ok (.iadd, 1) := by decide +kernel
theorem dL_law_613 : decode cL_law 613 = .ok (.iaload, 1) := by decide +kernel
theorem dL_law_614 : decode cL_law 614 = .ok (.aload_n 0, 1) := by decide +kernel
theorem dL_law_615 : decode cL_law 615 = .ok (.iload_n 3, 1) := by decide +kernel
theorem dL_law_616 : decode cL_law 616 = .ok (.iconst 2, 1) := by decide +kernel
theorem dL_law_617 : decode cL_law 617 = .ok (.iadd, 1) := by decide +kernel
theorem dL_law_618 : decode cL_law 618 = .ok (.iaload, 1) := by decide +kernel
theorem dL_law_619 : decode cL_law 619 = .ok (.invokevirtual 76, 3) := by decide +kernel
theorem dL_law_622 : decode cL_law 622 = .ok (.if_icmp .eq 790, 3) := by decide +kernel
theorem dL_law_625 : decode cL_law 625 = .ok (.iconst 0, 1) := by decide +kernel
theorem dL_law_626 : decode cL_law 626 = .ok (.ireturn, 1) := by decide +kernel
theorem dL_law_627 : decode cL_law 627 = .ok (.aload_n 1, 1) := by decide +kernel
theorem dL_law_628 : decode cL_law 628 = .ok (.invokevirtual 77, 3) := by decide +kernel
theorem dL_law_631 : decode cL_law 631 = .ok (.aload_n 2, 1) := by decide +kernel
theorem dL_law_632 : decode cL_law 632 = .ok (.invokevirtual 80, 3) := by decide +kernel
theorem dL_law_635 : decode cL_law 635 = .ok (.if_icmp .eq 777, 3) := by decide +kernel
theorem dL_law_638 : decode cL_law 638 = .ok (.iconst 0, 1) := by decide +kernel
theorem dL_law_639 : decode cL_law 639 = .ok (.ireturn, 1) := by decide +kernel
theorem dL_law_640 : decode cL_law 640 = .ok (.aload_n 1, 1) := by decide +kernel
theorem dL_law_641 : decode cL_law 641 = .ok (.aload_n 0, 1) := by decide +kernel
theorem dL_law_642 : decode cL_law 642 = .ok (.iload_n 3, 1) := by decide +kernel
theorem dL_law_643 : decode cL_law 643 = .ok (.iconst 1, 1) := by decide +kernel
theorem dL_law_644 : decode cL_law 644 = .ok (.iadd, 1) := by decide +kernel
theorem dL_law_645 : decode cL_law 645 = .ok (.iaload, 1) := by decide +kernel
theorem dL_law_646 : decode cL_law 646 = .ok (.invokevirtual 81, 3) := by decide +kernel
theorem dL_law_649 : decode cL_law 649 = .ok (.aload_n 2, 1) := by decide +kernel
theorem dL_law_650 : decode cL_law 650 = .ok (.aload_n 0, 1) := by decide +kernel
theorem dL_law_651 : decode cL_law 651 = .ok (.iload_n 3, 1) := by decide +kernel
theorem dL_law_652 : decode cL_law 652 = .ok (.iconst 1, 1) := by decide +kernel
theorem dL_law_653 : decode cL_law 653 = .ok (.iadd, 1) := by decide +kernel
theorem dL_law_654 : decode cL_law 654 = .ok (.iaload, 1) := by decide +kernel
theorem dL_law_655 : decode cL_law 655 = .ok (.invokevirtual 84, 3) := by decide +kernel
theorem dL_law_658 : decode cL_law 658 = .ok (.if_icmp .eq 754, 3) := by decide +kernel
theorem dL_law_661 : decode cL_law 661 = .ok (.iconst 0, 1) := by decide +kernel
theorem dL_law_662 : decode cL_law 662 = .ok (.ireturn, 1) := by decide +kernel
theorem dL_law_663 : decode cL_law 663 = .ok (.aload_n 1, 1) := by decide +kernel
theorem dL_law_664 : decode cL_law 664 = .ok (.invokevirtual 85, 3) := by decide +kernel
theorem dL_law_667 : decode cL_law 667 = .ok (.aload_n 2, 1) := by decide +kernel
theorem dL_law_668 : decode cL_law 668 = .ok (.invokevirtual 88, 3) := by decide +kernel
theorem dL_law_671 : decode cL_law 671 = .ok (.if_icmp .eq 741, 3) := by decide +kernel
theorem dL_law_674 : decode cL_law 674 = .ok (.iconst 0, 1) := by decide +kernel
theorem dL_law_675 : decode cL_law 675 = .ok (.ireturn, 1) := by decide +kernel
theorem dL_law_676 : decode cL_law 676 = .ok (.aload_n 1, 1) := by decide +kernel
theorem dL_law_677 : decode cL_law 677 = .ok (.aload_n 0, 1) := by decide +kernel
theorem dL_law_678 : decode cL_law 678 = .ok (.iload_n 3, 1) := by decide +kernel
theorem dL_law_679 : decode cL_law 679 = .ok (.iconst 1, 1) := by decide +kernel
theorem dL_law_680 : decode cL_law 680 = .ok (.iadd, 1) := by decide +kernel
theorem dL_law_681 : decode cL_law 681 = .ok (.iaload, 1) := by decide +kernel
theorem dL_law_682 : decode cL_law 682 = .ok (.invokevirtual 89, 3) := by decide +kernel
theorem dL_law_685 : decode cL_law 685 = .ok (.aload_n 2, 1) := by decide +kernel
theorem dL_law_686 : decode cL_law 686 = .ok (.aload_n 0, 1) := by decide +kernel
theorem dL_law_687 : decode cL_law 687 = .ok (.iload_n 3, 1) := by decide +kernel
theorem dL_law_688 : decode cL_law 688 = .ok (.iconst 1, 1) := by decide +kernel
theorem dL_law_689 : decode cL_law 689 = .ok (.iadd, 1) := by decide +kernel
theorem dL_law_690 : decode cL_law 690 = .ok (.iaload, 1) := by decide +kernel
theorem dL_law_691 : decode cL_law 691 = .ok (.invokevirtual 92, 3) := by decide +kernel
theorem dL_law_694 : decode cL_law 694 = .ok (.if_icmp .eq 718, 3) := by decide +kernel
theorem dL_law_697 : decode cL_law 697 = .ok (.iconst 0, 1) := by decide +kernel
theorem dL_law_698 : decode cL_law 698 = .ok (.ireturn, 1) := by decide +kernel
theorem dL_law_699 : decode cL_law 699 = .ok (.aload_n 1, 1) := by decide +kernel
theorem dL_law_700 : decode cL_law 700 = .ok (.invokevirtual 93, 3) := by decide +kernel
theorem dL_law_703 : decode cL_law 703 = .ok (.aload_n 2, 1) := by decide +kernel
theorem dL_law_704 : decode cL_law 704 = .ok (.invokevirtual 96, 3) := by decide +kernel
theorem dL_law_707 : decode cL_law 707 = .ok (.if_icmp .eq 705, 3) := by decide +kernel
theorem dL_law_710 : decode cL_law 710 = .ok (.iconst 0, 1) := by decide +kernel
theorem dL_law_711 : decode cL_law 711 = .ok (.ireturn, 1) := by decide +kernel
theorem dL_law_712 : decode cL_law 712 = .ok (.aload_n 1, 1) := by decide +kernel
theorem dL_law_713 : decode cL_law 713 = .ok (.aload_n 0, 1) := by decide +kernel
theorem dL_law_714 : decode cL_law 714 = .ok (.iload_n 3, 1) := by decide +kernel
theorem dL_law_715 : decode cL_law 715 = .ok (.iconst 1, 1) := by decide +kernel
theorem dL_law_716 : decode cL_law 716 = .ok (.iadd, 1) := by decide +kernel
theorem dL_law_717 : decode cL_law 717 = .ok (.iaload, 1) := by decide +kernel
theorem dL_law_718 : decode cL_law 718 = .ok (.aload_n 0, 1) := by decide +kernel
theorem dL_law_719 : decode cL_law 719 = .ok (.iload_n 3, 1) := by decide +kernel
theorem dL_law_720 : decode cL_law 720 = .ok (.iconst 2, 1) := by decide +kernel
theorem dL_law_721 : decode cL_law 721 = .ok (.iadd, 1) := by decide +kernel
theorem dL_law_722 : decode cL_law 722 = .ok (.iaload, 1) := by decide +kernel
theorem dL_law_723 : decode cL_law 723 = .ok (.invokevirtual 97, 3) := by decide +kernel
theorem dL_law_726 : decode cL_law 726 = .ok (.aload_n 2, 1) := by decide +kernel
theorem dL_law_727 : decode cL_law 727 = .ok (.aload_n 0, 1) := by decide +kernel
theorem dL_law_728 : decode cL_law 728 = .ok (.iload_n 3, 1) := by decide +kernel
theorem dL_law_729 : decode cL_law 729 = .ok (.iconst 1, 1) := by decide +kernel
theorem dL_law_730 : decode cL_law 730 = .ok (.iadd, 1) := by decide +kernel
theorem dL_law_731 : decode cL_law 731 = .ok (.iaload, 1) := by decide +kernel
theorem dL_law_732 : decode cL_law 732 = .ok (.aload_n 0, 1) := by decide +kernel
theorem dL_law_733 : decode cL_law 733 = .ok (.iload_n 3, 1) := by decide +kernel
theorem dL_law_734 : decode cL_law 734 = .ok (.iconst 2, 1) := by decide +kernel
theorem dL_law_735 : decode cL_law 735 = .ok (.iadd, 1) := by decide +kernel
theorem dL_law_736 : decode cL_law 736 = .ok (.iaload, 1) := by decide +kernel
theorem dL_law_737 : decode cL_law 737 = .ok (.invokevirtual 100, 3) := by decide +kernel
theorem dL_law_740 : decode cL_law 740 = .ok (.if_icmp .eq 672, 3) := by decide +kernel
theorem dL_law_743 : decode cL_law 743 = .ok (.iconst 0, 1) := by decide +kernel
theorem dL_law_744 : decode cL_law 744 = .ok (.ireturn, 1) := by decide +kernel
theorem dL_law_745 : decode cL_law 745 = .ok (.aload_n 1, 1) := by decide +kernel
theorem dL_law_746 : decode cL_law 746 = .ok (.aload_n 0, 1) := by decide +kernel
theorem dL_law_747 : decode cL_law 747 = .ok (.iload_n 3, 1) := by decide +kernel
theorem dL_law_748 : decode cL_law 748 = .ok (.iconst 1, 1) := by decide +kernel
theorem dL_law_749 : decode cL_law 749 = .ok (.iadd, 1) := by decide +kernel
theorem dL_law_750 : decode cL_law 750 = .ok (.iaload, 1) := by decide +kernel
theorem dL_law_751 : decode cL_law 751 = .ok (.invokevirtual 101, 3) := by decide +kernel
theorem dL_law_754 : decode cL_law 754 = .ok (.aload_n 2, 1) := by decide +kernel
theorem dL_law_755 : decode cL_law 755 = .ok (.aload_n 0, 1) := by decide +kernel
theorem dL_law_756 : decode cL_law 756 = .ok (.iload_n 3, 1) := by decide +kernel
theorem dL_law_757 : decode cL_law 757 = .ok (.iconst 1, 1) := by decide +kernel
theorem dL_law_758 : decode cL_law 758 = .ok (.iadd, 1) := by decide +kernel
theorem dL_law_759 : decode cL_law 759 = .ok (.iaload, 1) := by decide +kernel
theorem dL_law_760 : decode cL_law 760 = .ok (.invokevirtual 104, 3) := by decide +kernel
theorem dL_law_763 : decode cL_law 763 = .ok (.if_icmp .eq 649, 3) := by decide +kernel
theorem dL_law_766 : decode cL_law 766 = .ok (.iconst 0, 1) := by decide +kernel
theorem dL_law_767 : decode cL_law 767 = .ok (.ireturn, 1) := by decide +kernel
theorem dL_law_768 : decode cL_law 768 = .ok (.aload_n 1, 1) := by decide +kernel
theorem dL_law_769 : decode cL_law 769 = .ok (.aload_n 0, 1) := by decide +kernel
theorem dL_law_770 : decode cL_law 770 = .ok (.iload_n 3, 1) := by decide +kernel
theorem dL_law_771 : decode cL_law 771 = .ok (.iconst 1, 1) := by decide +kernel
theorem dL_law_772 : decode cL_law 772 = .ok (.iadd, 1) := by decide +kernel
theorem dL_law_773 : decode cL_law 773 = .ok (.iaload, 1) := by decide +kernel
theorem dL_law_774 : decode cL_law 774 = .ok (.invokevirtual 105, 3) := by decide +kernel
theorem dL_law_777 : decode cL_law 777 = .ok (.aload_n 2, 1) := by decide +kernel
theorem dL_law_778 : decode cL_law 778 = .ok (.aload_n 0, 1) := by decide +kernel
theorem dL_law_779 : decode cL_law 779 = .ok (.iload_n 3, 1) := by decide +kernel
theorem dL_law_780 : decode cL_law 780 = .ok (.iconst 1, 1) := by decide +kernel
theorem dL_law_781 : decode cL_law 781 = .ok (.iadd, 1) := by decide +kernel
theorem dL_law_782 : decode cL_law 782 = .ok (.iaload, 1) := by decide +kernel
theorem dL_law_783 : decode cL_law 783 = .ok (.invokevirtual 108, 3) := by decide +kernel
theorem dL_law_786 : decode cL_law 786 = .ok (.if_icmp .eq 626, 3) := by decide +kernel
theorem dL_law_789 : decode cL_law 789 = .ok (.iconst 0, 1) := by decide +kernel
theorem dL_law_790 : decode cL_law 790 = .ok (.ireturn, 1) := by decide +kernel
theorem dL_law_791 : decode cL_law 791 = .ok (.aload_n 1, 1) := by decide +kernel
theorem dL_law_792 : decode cL_law 792 = .ok (.aload_n 0, 1) := by decide +kernel
theorem dL_law_793 : decode cL_law 793 = .ok (.iload_n 3, 1) := by decide +kernel
theorem dL_law_794 : decode cL_law 794 = .ok (.iconst 1, 1) := by decide +kernel
theorem dL_law_795 : decode cL_law 795 = .ok (.iadd, 1) := by decide +kernel
theorem dL_law_796 : decode cL_law 796 = .ok (.iaload, 1) := by decide +kernel
theorem dL_law_797 : decode cL_law 797 = .ok (.invokevirtual 109, 3) := by decide +kernel
theorem dL_law_800 : decode cL_law 800 = .ok (.aload_n 2, 1) := by decide +kernel
theorem dL_law_801 : decode cL_law 801 = .ok (.aload_n 0, 1) := by decide +kernel
theorem dL_law_802 : decode cL_law 802 = .ok (.iload_n 3, 1) := by decide +kernel
theorem dL_law_803 : decode cL_law 803 = .ok (.iconst 1, 1) := by decide +kernel
theorem dL_law_804 : decode cL_law 804 = .ok (.iadd, 1) := by decide +kernel
theorem dL_law_805 : decode cL_law 805 = .ok (.iaload, 1) := by decide +kernel
theorem dL_law_806 : decode cL_law 806 = .ok (.invokevirtual 112, 3) := by decide +kernel
theorem dL_law_809 : decode cL_law 809 = .ok (.if_icmp .eq 603, 3) := by decide +kernel
theorem dL_law_812 : decode cL_law 812 = .ok (.iconst 0, 1) := by decide +kernel
theorem dL_law_813 : decode cL_law 813 = .ok (.ireturn, 1) := by decide +kernel
theorem dL_law_814 : decode cL_law 814 = .ok (.aload_n 1, 1) := by decide +kernel
theorem dL_law_815 : decode cL_law 815 = .ok (.aload_n 0, 1) := by decide +kernel
theorem dL_law_816 : decode cL_law 816 = .ok (.iload_n 3, 1) := by decide +kernel
theorem dL_law_817 : decode cL_law 817 = .ok (.iconst 1, 1) := by decide +kernel
theorem dL_law_818 : decode cL_law 818 = .ok (.iadd, 1) := by decide +kernel
theorem dL_law_819 : decode cL_law 819 = .ok (.iaload, 1) := by decide +kernel
theorem dL_law_820 : decode cL_law 820 = .ok (.invokevirtual 113, 3) := by decide +kernel
theorem dL_law_823 : decode cL_law 823 = .ok (.aload_n 2, 1) := by decide +kernel
theorem dL_law_824 : decode cL_law 824 = .ok (.aload_n 0, 1) := by decide +kernel
theorem dL_law_825 : decode cL_law 825 = .ok (.iload_n 3, 1) := by decide +kernel
theorem dL_law_826 : decode cL_law 826 = .ok (.iconst 1, 1) := by decide +kernel
theorem dL_law_827 : decode cL_law 827 = .ok (.iadd, 1) := by decide +kernel
theorem dL_law_828 : decode cL_law 828 = .ok (.iaload, 1) := by decide +kernel
theorem dL_law_829 : decode cL_law 829 = .ok (.invokevirtual 116, 3) := by decide +kernel
theorem dL_law_832 : decode cL_law 832 = .ok (.if_icmp .eq 580, 3) := by decide +kernel
theorem dL_law_835 : decode cL_law 835 = .ok (.iconst 0, 1) := by decide +kernel
theorem dL_law_836 : decode cL_law 836 = .ok (.ireturn, 1) := by decide +kernel
theorem dL_law_837 : decode cL_law 837 = .ok (.aload_n 1, 1) := by decide +kernel
theorem dL_law_838 : decode cL_law 838 = .ok (.aload_n 0, 1) := by decide +kernel
theorem dL_law_839 : decode cL_law 839 = .ok (.iload_n 3, 1) := by decide +kernel
theorem dL_law_840 : decode cL_law 840 = .ok (.iconst 1, 1) := by decide +kernel
theorem dL_law_841 : decode cL_law 841 = .ok (.iadd, 1) := by decide +kernel
theorem dL_law_842 : decode cL_law 842 = .ok (.iaload, 1) := by decide +kernel
theorem dL_law_843 : decode cL_law 843 = .ok (.invokevirtual 117, 3) := by decide +kernel
theorem dL_law_846 : decode cL_law 846 = .ok (.aload_n 2, 1) := by decide +kernel
theorem dL_law_847 : decode cL_law 847 = .ok (.aload_n 0, 1) := by decide +kernel
theorem dL_law_848 : decode cL_law 848 = .ok (.iload_n 3, 1) := by decide +kernel
theorem dL_law_849 : decode cL_law 849 = .ok (.iconst 1, 1) := by decide +kernel
theorem dL_law_850 : decode cL_law 850 = .ok (.iadd, 1) := by decide +kernel
theorem dL_law_851 : decode cL_law 851 = .ok (.iaload, 1) := by decide +kernel
theorem dL_law_852 : decode cL_law 852 = .ok (.invokevirtual 120, 3) := by decide +kernel
theorem dL_law_855 : decode cL_law 855 = .ok (.if_icmp .eq 557, 3) := by decide +kernel
theorem dL_law_858 : decode cL_law 858 = .ok (.iconst 0, 1) := by decide +kernel
theorem dL_law_859 : decode cL_law 859 = .ok (.ireturn, 1) := by decide +kernel
theorem dL_law_860 : decode cL_law 860 = .ok (.aload_n 1, 1) := by decide +kernel
theorem dL_law_861 : decode cL_law 861 = .ok (.aload_n 0, 1) := by decide +kernel
theorem dL_law_862 : decode cL_law 862 = .ok (.iload_n 3, 1) := by decide +kernel
theorem dL_law_863 : decode cL_law 863 = .ok (.iconst 1, 1) := by decide +kernel
theorem dL_law_864 : decode cL_law 864 = .ok (.iadd, 1) := by decide +kernel
theorem dL_law_865 : decode cL_law 865 = .ok (.iaload, 1) := by decide +kernel
theorem dL_law_866 : decode cL_law 866 = .ok (.aload_n 0, 1) := by decide +kernel
theorem dL_law_867 : decode cL_law 867 = .ok (.iload_n 3, 1) := by decide +kernel
theorem dL_law_868 : decode cL_law 868 = .ok (.iconst 2, 1) := by decide +kernel
theorem dL_law_869 : decode cL_law 869 = .ok (.iadd, 1) := by decide +kernel
theorem dL_law_870 : decode cL_law 870 = .ok (.iaload, 1) := by decide +kernel
theorem dL_law_871 : decode cL_law 871 = .ok (.invokevirtual 121, 3) := by decide +kernel
theorem dL_law_874 : decode cL_law 874 = .ok (.aload_n 2, 1) := by decide +kernel
theorem dL_law_875 : decode cL_law 875 = .ok (.aload_n 0, 1) := by decide +kernel
theorem dL_law_876 : decode cL_law 876 = .ok (.iload_n 3, 1) := by decide +kernel
theorem dL_law_877 : decode cL_law 877 = .ok (.iconst 1, 1) := by decide +kernel
theorem dL_law_878 : decode cL_law 878 = .ok (.iadd, 1) := by decide +kernel
theorem dL_law_879 : decode cL_law 879 = .ok (.iaload, 1) := by decide +kernel
theorem dL_law_880 : decode cL_law 880 = .ok (.aload_n 0, 1) := by decide +kernel
theorem dL_law_881 : decode cL_law 881 = .ok (.iload_n 3, 1) := by decide +kernel
theorem dL_law_882 : decode cL_law 882 = .ok (.iconst 2, 1) := by decide +kernel
theorem dL_law_883 : decode cL_law 883 = .ok (.iadd, 1) := by decide +kernel
theorem dL_law_884 : decode cL_law 884 = .ok (.iaload, 1) := by decide +kernel
theorem dL_law_885 : decode cL_law 885 = .ok (.invokevirtual 125, 3) := by decide +kernel
theorem dL_law_888 : decode cL_law 888 = .ok (.lcmp, 1) := by decide +kernel
theorem dL_law_889 : decode cL_law 889 = .ok (.ifCond .eq 523, 3) := by decide +kernel
theorem dL_law_892 : decode cL_law 892 = .ok (.iconst 0, 1) := by decide +kernel
theorem dL_law_893 : decode cL_law 893 = .ok (.ireturn, 1) := by decide +kernel
theorem dL_law_894 : decode cL_law 894 = .ok (.aload_n 1, 1) := by decide +kernel
theorem dL_law_895 : decode cL_law 895 = .ok (.aload_n 0, 1) := by decide +kernel
theorem dL_law_896 : decode cL_law 896 = .ok (.iload_n 3, 1) := by decide +kernel
theorem dL_law_897 : decode cL_law 897 = .ok (.iconst 1, 1) := by decide +kernel
theorem dL_law_898 : decode cL_law 898 = .ok (.iadd, 1) := by decide +kernel
theorem dL_law_899 : decode cL_law 899 = .ok (.iaload, 1) := by decide +kernel
theorem dL_law_900 : decode cL_law 900 = .ok (.invokevirtual 126, 3) := by decide +kernel
theorem dL_law_903 : decode cL_law 903 = .ok (.aload_n 2, 1) := by decide +kernel
theorem dL_law_904 : decode cL_law 904 = .ok (.aload_n 0, 1) := by decide +kernel
theorem dL_law_905 : decode cL_law 905 = .ok (.iload_n 3, 1) := by decide +kernel
theorem dL_law_906 : decode cL_law 906 = .ok (.iconst 1, 1) := by decide +kernel
theorem dL_law_907 : decode cL_law 907 = .ok (.iadd, 1) := by decide +kernel
theorem dL_law_908 : decode cL_law 908 = .ok (.iaload, 1) := by decide +kernel
theorem dL_law_909 : decode cL_law 909 = .ok (.invokevirtual 130, 3) := by decide +kernel
theorem dL_law_912 : decode cL_law 912 = .ok (.lcmp, 1) := by decide +kernel
theorem dL_law_913 : decode cL_law 913 = .ok (.ifCond .eq 499, 3) := by decide +kernel
theorem dL_law_916 : decode cL_law 916 = .ok (.iconst 0, 1) := by decide +kernel
theorem dL_law_917 : decode cL_law 917 = .ok (.ireturn, 1) := by decide +kernel
theorem dL_law_918 : decode cL_law 918 = .ok (.aload_n 1, 1) := by decide +kernel
theorem dL_law_919 : decode cL_law 919 = .ok (.aload_n 0, 1) := by decide +kernel
theorem dL_law_920 : decode cL_law 920 = .ok (.iload_n 3, 1) := by decide +kernel
theorem dL_law_921 : decode cL_law 921 = .ok (.iconst 1, 1) := by decide +kernel
theorem dL_law_922 : decode cL_law 922 = .ok (.iadd, 1) := by decide +kernel
theorem dL_law_923 : decode cL_law 923 = .ok (.iaload, 1) := by decide +kernel
theorem dL_law_924 : decode cL_law 924 = .ok (.invokevirtual 131, 3) := by decide +kernel
theorem dL_law_927 : decode cL_law 927 = .ok (.aload_n 2, 1) := by decide +kernel
theorem dL_law_928 : decode cL_law 928 = .ok (.aload_n 0, 1) := by decide +kernel
theorem dL_law_929 : decode cL_law 929 = .ok (.iload_n 3, 1) := by decide +kernel
theorem dL_law_930 : decode cL_law 930 = .ok (.iconst 1, 1) := by decide +kernel
theorem dL_law_931 : decode cL_law 931 = .ok (.iadd, 1) := by decide +kernel
theorem dL_law_932 : decode cL_law 932 = .ok (.iaload, 1) := by decide +kernel
theorem dL_law_933 : decode cL_law 933 = .ok (.invokevirtual 134, 3) := by decide +kernel
theorem dL_law_936 : decode cL_law 936 = .ok (.if_icmp .eq 476, 3) := by decide +kernel
theorem dL_law_939 : decode cL_law 939 = .ok (.iconst 0, 1) := by decide +kernel
theorem dL_law_940 : decode cL_law 940 = .ok (.ireturn, 1) := by decide +kernel
theorem dL_law_941 : decode cL_law 941 = .ok (.aload_n 1, 1) := by decide +kernel
theorem dL_law_942 : decode cL_law 942 = .ok (.aload_n 0, 1) := by decide +kernel
theorem dL_law_943 : decode cL_law 943 = .ok (.iload_n 3, 1) := by decide +kernel
theorem dL_law_944 : decode cL_law 944 = .ok (.iconst 1, 1) := by decide +kernel
theorem dL_law_945 : decode cL_law 945 = .ok (.iadd, 1) := by decide +kernel
theorem dL_law_946 : decode cL_law 946 = .ok (.iaload, 1) := by decide +kernel
theorem dL_law_947 : decode cL_law 947 = .ok (.invokevirtual 135, 3) := by decide +kernel
theorem dL_law_950 : decode cL_law 950 = .ok (.aload_n 2, 1) := by decide +kernel
theorem dL_law_951 : decode cL_law 951 = .ok (.aload_n 0, 1) := by decide +kernel
theorem dL_law_952 : decode cL_law 952 = .ok (.iload_n 3, 1) := by decide +kernel
theorem dL_law_953 : decode cL_law 953 = .ok (.iconst 1, 1) := by decide +kernel
theorem dL_law_954 : decode cL_law 954 = .ok (.iadd, 1) := by decide +kernel
theorem dL_law_955 : decode cL_law 955 = .ok (.iaload, 1) := by decide +kernel
theorem dL_law_956 : decode cL_law 956 = .ok (.invokevirtual 138, 3) := by decide +kernel
theorem dL_law_959 : decode cL_law 959 = .ok (.if_icmp .eq 453, 3) := by decide +kernel
theorem dL_law_962 : decode cL_law 962 = .ok (.iconst 0, 1) := by decide +kernel
theorem dL_law_963 : decode cL_law 963 = .ok (.ireturn, 1) := by decide +kernel
theorem dL_law_964 : decode cL_law 964 = .ok (.aload_n 1, 1) := by decide +kernel
theorem dL_law_965 : decode cL_law 965 = .ok (.aload_n 0, 1) := by decide +kernel
theorem dL_law_966 : decode cL_law 966 = .ok (.iload_n 3, 1) := by decide +kernel
theorem dL_law_967 : decode cL_law 967 = .ok (.iconst 1, 1) := by decide +kernel
theorem dL_law_968 : decode cL_law 968 = .ok (.iadd, 1) := by decide +kernel
theorem dL_law_969 : decode cL_law 969 = .ok (.iaload, 1) := by decide +kernel
theorem dL_law_970 : decode cL_law 970 = .ok (.aload_n 0, 1) := by decide +kernel
theorem dL_law_971 : decode cL_law 971 = .ok (.iload_n 3, 1) := by decide +kernel
theorem dL_law_972 : decode cL_law 972 = .ok (.iconst 2, 1) := by decide +kernel
theorem dL_law_973 : decode cL_law 973 = .ok (.iadd, 1) := by decide +kernel
theorem dL_law_974 : decode cL_law 974 = .ok (.iaload, 1) := by decide +kernel
theorem dL_law_975 : decode cL_law 975 = .ok (.invokevirtual 139, 3) := by decide +kernel
theorem dL_law_978 : decode cL_law 978 = .ok (.aload_n 2, 1) := by decide +kernel
theorem dL_law_979 : decode cL_law 979 = .ok (.aload_n 0, 1) := by decide +kernel
theorem dL_law_980 : decode cL_law 980 = .ok (.iload_n 3, 1) := by decide +kernel
theorem dL_law_981 : decode cL_law 981 = .ok (.iconst 1, 1) := by decide +kernel
theorem dL_law_982 : decode cL_law 982 = .ok (.iadd, 1) := by decide +kernel
theorem dL_law_983 : decode cL_law 983 = .ok (.iaload, 1) := by decide +kernel
theorem dL_law_984 : decode cL_law 984 = .ok (.aload_n 0, 1) := by decide +kernel
theorem dL_law_985 : decode cL_law 985 = .ok (.iload_n 3, 1) := by decide +kernel
theorem dL_law_986 : decode cL_law 986 = .ok (.iconst 2, 1) := by decide +kernel
theorem dL_law_987 : decode cL_law 987 = .ok (.iadd, 1) := by decide +kernel
theorem dL_law_988 : decode cL_law 988 = .ok (.iaload, 1) := by decide +kernel
theorem dL_law_989 : decode cL_law 989 = .ok (.invokevirtual 142, 3) := by decide +kernel
theorem dL_law_992 : decode cL_law 992 = .ok (.if_icmp .eq 420, 3) := by decide +kernel
theorem dL_law_995 : decode cL_law 995 = .ok (.iconst 0, 1) := by decide +kernel
theorem dL_law_996 : decode cL_law 996 = .ok (.ireturn, 1) := by decide +kernel
theorem dL_law_997 : decode cL_law 997 = .ok (.aload_n 1, 1) := by decide +kernel
theorem dL_law_998 : decode cL_law 998 = .ok (.aload_n 0, 1) := by decide +kernel
theorem dL_law_999 : decode cL_law 999 = .ok (.iload_n 3, 1) := by decide +kernel
theorem dL_law_1000 : decode cL_law 1000 = .ok (.iconst 1, 1) := by decide +kernel
theorem dL_law_1001 : decode cL_law 1001 = .ok (.iadd, 1) := by decide +kernel
theorem dL_law_1002 : decode cL_law 1002 = .ok (.iaload, 1) := by decide +kernel
theorem dL_law_1003 : decode cL_law 1003 = .ok (.aload_n 0, 1) := by decide +kernel
theorem dL_law_1004 : decode cL_law 1004 = .ok (.iload_n 3, 1) := by decide +kernel
theorem dL_law_1005 : decode cL_law 1005 = .ok (.iconst 2, 1) := by decide +kernel
theorem dL_law_1006 : decode cL_law 1006 = .ok (.iadd, 1) := by decide +kernel
theorem dL_law_1007 : decode cL_law 1007 = .ok (.iaload, 1) := by decide +kernel
theorem dL_law_1008 : decode cL_law 1008 = .ok (.invokevirtual 143, 3) := by decide +kernel
theorem dL_law_1011 : decode cL_law 1011 = .ok (.aload_n 2, 1) := by decide +kernel
theorem dL_law_1012 : decode cL_law 1012 = .ok (.aload_n 0, 1) := by decide +kernel
theorem dL_law_1013 : decode cL_law 1013 = .ok (.iload_n 3, 1) := by decide +kernel
theorem dL_law_1014 : decode cL_law 1014 = .ok (.iconst 1, 1) := by decide +kernel
theorem dL_law_1015 : decode cL_law 1015 = .ok (.iadd, 1) := by decide +kernel
theorem dL_law_1016 : decode cL_law 1016 = .ok (.iaload, 1) := by decide +kernel
theorem dL_law_1017 : decode cL_law 1017 = .ok (.aload_n 0, 1) := by decide +kernel
theorem dL_law_1018 : decode cL_law 1018 = .ok (.iload_n 3, 1) := by decide +kernel
theorem dL_law_1019 : decode cL_law 1019 = .ok (.iconst 2, 1) := by decide +kernel
theorem dL_law_1020 : decode cL_law 1020 = .ok (.iadd, 1) := by decide +kernel
theorem dL_law_1021 : decode cL_law 1021 = .ok (.iaload, 1) := by decide +kernel
theorem dL_law_1022 : decode cL_law 1022 = .ok (.invokevirtual 146, 3) := by decide +kernel
theorem dL_law_1025 : decode cL_law 1025 = .ok (.if_icmp .eq 387, 3) := by decide +kernel
theorem dL_law_1028 : decode cL_law 1028 = .ok (.iconst 0, 1) := by decide +kernel
theorem dL_law_1029 : decode cL_law 1029 = .ok (.ireturn, 1) := by decide +kernel
theorem dL_law_1030 : decode cL_law 1030 = .ok (.aload_n 1, 1) := by decide +kernel
theorem dL_law_1031 : decode cL_law 1031 = .ok (.aload_n 0, 1) := by decide +kernel
theorem dL_law_1032 : decode cL_law 1032 = .ok (.iload_n 3, 1) := by decide +kernel
theorem dL_law_1033 : decode cL_law 1033 = .ok (.iconst 1, 1) := by decide +kernel
theorem dL_law_1034 : decode cL_law 1034 = .ok (.iadd, 1) := by decide +kernel
theorem dL_law_1035 : decode cL_law 1035 = .ok (.iaload, 1) := by decide +kernel
theorem dL_law_1036 : decode cL_law 1036 = .ok (.aload_n 0, 1) := by decide +kernel
theorem dL_law_1037 : decode cL_law 1037 = .ok (.iload_n 3, 1) := by decide +kernel
theorem dL_law_1038 : decode cL_law 1038 = .ok (.iconst 2, 1) := by decide +kernel
theorem dL_law_1039 : decode cL_law 1039 = .ok (.iadd, 1) := by decide +kernel
theorem dL_law_1040 : decode cL_law 1040 = .ok (.iaload, 1) := by decide +kernel
theorem dL_law_1041 : decode cL_law 1041 = .ok (.invokevirtual 147, 3) := by decide +kernel
theorem dL_law_1044 : decode cL_law 1044 = .ok (.aload_n 2, 1) := by decide +kernel
theorem dL_law_1045 : decode cL_law 1045 = .ok (.aload_n 0, 1) := by decide +kernel
theorem dL_law_1046 : decode cL_law 1046 = .ok (.iload_n 3, 1) := by decide +kernel
theorem dL_law_1047 : decode cL_law 1047 = .ok (.iconst 1, 1) := by decide +kernel
theorem dL_law_1048 : decode cL_law 1048 = .ok (.iadd, 1) := by decide +kernel
theorem dL_law_1049 : decode cL_law 1049 = .ok (.iaload, 1) := by decide +kernel
theorem dL_law_1050 : decode cL_law 1050 = .ok (.aload_n 0, 1) := by decide +kernel
theorem dL_law_1051 : decode cL_law 1051 = .ok (.iload_n 3, 1) := by decide +kernel
theorem dL_law_1052 : decode cL_law 1052 = .ok (.iconst 2, 1) := by decide +kernel
theorem dL_law_1053 : decode cL_law 1053 = .ok (.iadd, 1) := by decide +kernel
theorem dL_law_1054 : decode cL_law 1054 = .ok (.iaload, 1) := by decide +kernel
theorem dL_law_1055 : decode cL_law 1055 = .ok (.invokevirtual 150, 3) := by decide +kernel
theorem dL_law_1058 : decode cL_law 1058 = .ok (.if_icmp .eq 354, 3) := by decide +kernel
theorem dL_law_1061 : decode cL_law 1061 = .ok (.iconst 0, 1) := by decide +kernel
theorem dL_law_1062 : decode cL_law 1062 = .ok (.ireturn, 1) := by decide +kernel
theorem dL_law_1063 : decode cL_law 1063 = .ok (.aload_n 1, 1) := by decide +kernel
theorem dL_law_1064 : decode cL_law 1064 = .ok (.invokevirtual 151, 3) := by decide +kernel
theorem dL_law_1067 : decode cL_law 1067 = .ok (.aload_n 2, 1) := by decide +kernel
theorem dL_law_1068 : decode cL_law 1068 = .ok (.invokevirtual 154, 3) := by decide +kernel
theorem dL_law_1071 : decode cL_law 1071 = .ok (.if_icmp .eq 341, 3) := by decide +kernel
theorem dL_law_1074 : decode cL_law 1074 = .ok (.iconst 0, 1) := by decide +kernel
theorem dL_law_1075 : decode cL_law 1075 = .ok (.ireturn, 1) := by decide +kernel
theorem dL_law_1076 : decode cL_law 1076 = .ok (.aload_n 1, 1) := by decide +kernel
theorem dL_law_1077 : decode cL_law 1077 = .ok (.invokevirtual 155, 3) := by decide +kernel
theorem dL_law_1080 : decode cL_law 1080 = .ok (.aload_n 2, 1) := by decide +kernel
theorem dL_law_1081 : decode cL_law 1081 = .ok (.invokevirtual 158, 3) := by decide +kernel
theorem dL_law_1084 : decode cL_law 1084 = .ok (.if_icmp .eq 328, 3) := by decide +kernel
theorem dL_law_1087 : decode cL_law 1087 = .ok (.iconst 0, 1) := by decide +kernel
theorem dL_law_1088 : decode cL_law 1088 = .ok (.ireturn, 1) := by decide +kernel
theorem dL_law_1089 : decode cL_law 1089 = .ok (.aload_n 1, 1) := by decide +kernel
theorem dL_law_1090 : decode cL_law 1090 = .ok (.aload_n 0, 1) := by decide +kernel
theorem dL_law_1091 : decode cL_law 1091 = .ok (.iload_n 3, 1) := by decide +kernel
theorem dL_law_1092 : decode cL_law 1092 = .ok (.iconst 1, 1) := by decide +kernel
theorem dL_law_1093 : decode cL_law 1093 = .ok (.iadd, 1) := by decide +kernel
theorem dL_law_1094 : decode cL_law 1094 = .ok (.iaload, 1) := by decide +kernel
theorem dL_law_1095 : decode cL_law 1095 = .ok (.aload_n 0, 1) := by decide +kernel
theorem dL_law_1096 : decode cL_law 1096 = .ok (.iload_n 3, 1) := by decide +kernel
theorem dL_law_1097 : decode cL_law 1097 = .ok (.iconst 2, 1) := by decide +kernel
theorem dL_law_1098 : decode cL_law 1098 = .ok (.iadd, 1) := by decide +kernel
theorem dL_law_1099 : decode cL_law 1099 = .ok (.iaload, 1) := by decide +kernel
theorem dL_law_1100 : decode cL_law 1100 = .ok (.invokevirtual 159, 3) := by decide +kernel
theorem dL_law_1103 : decode cL_law 1103 = .ok (.aload_n 2, 1) := by decide +kernel
theorem dL_law_1104 : decode cL_law 1104 = .ok (.aload_n 0, 1) := by decide +kernel
theorem dL_law_1105 : decode cL_law 1105 = .ok (.iload_n 3, 1) := by decide +kernel
theorem dL_law_1106 : decode cL_law 1106 = .ok (.iconst 1, 1) := by decide +kernel
theorem dL_law_1107 : decode cL_law 1107 = .ok (.iadd, 1) := by decide +kernel
theorem dL_law_1108 : decode cL_law 1108 = .ok (.iaload, 1) := by decide +kernel
theorem dL_law_1109 : decode cL_law 1109 = .ok (.aload_n 0, 1) := by decide +kernel
theorem dL_law_1110 : decode cL_law 1110 = .ok (.iload_n 3, 1) := by decide +kernel
theorem dL_law_1111 : decode cL_law 1111 = .ok (.iconst 2, 1) := by decide +kernel
theorem dL_law_1112 : decode cL_law 1112 = .ok (.iadd, 1) := by decide +kernel
theorem dL_law_1113 : decode cL_law 1113 = .ok (.iaload, 1) := by decide +kernel
theorem dL_law_1114 : decode cL_law 1114 = .ok (.invokevirtual 162, 3) := by decide +kernel
theorem dL_law_1117 : decode cL_law 1117 = .ok (.if_icmp .eq 295, 3) := by decide +kernel
theorem dL_law_1120 : decode cL_law 1120 = .ok (.iconst 0, 1) := by decide +kernel
theorem dL_law_1121 : decode cL_law 1121 = .ok (.ireturn, 1) := by decide +kernel
theorem dL_law_1122 : decode cL_law 1122 = .ok (.aload_n 1, 1) := by decide +kernel
theorem dL_law_1123 : decode cL_law 1123 = .ok (.aload_n 0, 1) := by decide +kernel
theorem dL_law_1124 : decode cL_law 1124 = .ok (.iload_n 3, 1) := by decide +kernel
theorem dL_law_1125 : decode cL_law 1125 = .ok (.iconst 1, 1) := by decide +kernel
theorem dL_law_1126 : decode cL_law 1126 = .ok (.iadd, 1) := by decide +kernel
theorem dL_law_1127 : decode cL_law 1127 = .ok (.iaload, 1) := by decide +kernel
theorem dL_law_1128 : decode cL_law 1128 = .ok (.aload_n 0, 1) := by decide +kernel
theorem dL_law_1129 : decode cL_law 1129 = .ok (.iload_n 3, 1) := by decide +kernel
theorem dL_law_1130 : decode cL_law 1130 = .ok (.iconst 2, 1) := by decide +kernel
theorem dL_law_1131 : decode cL_law 1131 = .ok (.iadd, 1) := by decide +kernel
theorem dL_law_1132 : decode cL_law 1132 = .ok (.iaload, 1) := by decide +kernel
theorem dL_law_1133 : decode cL_law 1133 = .ok (.invokevirtual 163, 3) := by decide +kernel
theorem dL_law_1136 : decode cL_law 1136 = .ok (.aload_n 2, 1) := by decide +kernel
theorem dL_law_1137 : decode cL_law 1137 = .ok (.aload_n 0, 1) := by decide +kernel
theorem dL_law_1138 : decode cL_law 1138 = .ok (.iload_n 3, 1) := by decide +kernel
theorem dL_law_1139 : decode cL_law 1139 = .ok (.iconst 1, 1) := by decide +kernel
theorem dL_law_1140 : decode cL_law 1140 = .ok (.iadd, 1) := by decide +kernel
theorem dL_law_1141 : decode cL_law 1141 = .ok (.iaload, 1) := by decide +kernel
theorem dL_law_1142 : decode cL_law 1142 = .ok (.aload_n 0, 1) := by decide +kernel
theorem dL_law_1143 : decode cL_law 1143 = .ok (.iload_n 3, 1) := by decide +kernel
theorem dL_law_1144 : decode cL_law 1144 = .ok (.iconst 2, 1) := by decide +kernel
theorem dL_law_1145 : decode cL_law 1145 = .ok (.iadd, 1) := by decide +kernel
theorem dL_law_1146 : decode cL_law 1146 = .ok (.iaload, 1) := by decide +kernel
theorem dL_law_1147 : decode cL_law 1147 = .ok (.invokevirtual 166, 3) := by decide +kernel
theorem dL_law_1150 : decode cL_law 1150 = .ok (.if_icmp .eq 262, 3) := by decide +kernel
theorem dL_law_1153 : decode cL_law 1153 = .ok (.iconst 0, 1) := by decide +kernel
theorem dL_law_1154 : decode cL_law 1154 = .ok (.ireturn, 1) := by decide +kernel
theorem dL_law_1155 : decode cL_law 1155 = .ok (.aload_n 1, 1) := by decide +kernel
theorem dL_law_1156 : decode cL_law 1156 = .ok (.aload_n 0, 1) := by decide +kernel
theorem dL_law_1157 : decode cL_law 1157 = .ok (.iload_n 3, 1) := by decide +kernel
theorem dL_law_1158 : decode cL_law 1158 = .ok (.iconst 1, 1) := by decide +kernel
theorem dL_law_1159 : decode cL_law 1159 = .ok (.iadd, 1) := by decide +kernel
theorem dL_law_1160 : decode cL_law 1160 = .ok (.iaload, 1) := by decide +kernel
theorem dL_law_1161 : decode cL_law 1161 = .ok (.aload_n 0, 1) := by decide +kernel
theorem dL_law_1162 : decode cL_law 1162 = .ok (.iload_n 3, 1) := by decide +kernel
theorem dL_law_1163 : decode cL_law 1163 = .ok (.iconst 2, 1) := by decide +kernel
theorem dL_law_1164 : decode cL_law 1164 = .ok (.iadd, 1) := by decide +kernel
theorem dL_law_1165 : decode cL_law 1165 = .ok (.iaload, 1) := by decide +kernel
theorem dL_law_1166 : decode cL_law 1166 = .ok (.aload_n 0, 1) := by decide +kernel
theorem dL_law_1167 : decode cL_law 1167 = .ok (.iload_n 3, 1) := by decide +kernel
theorem dL_law_1168 : decode cL_law 1168 = .ok (.iconst 3, 1) := by decide +kernel
theorem dL_law_1169 : decode cL_law 1169 = .ok (.iadd, 1) := by decide +kernel
theorem dL_law_1170 : decode cL_law 1170 = .ok (.iaload, 1) := by decide +kernel
theorem dL_law_1171 : decode cL_law 1171 = .ok (.invokevirtual 167, 3) := by decide +kernel
theorem dL_law_1174 : decode cL_law 1174 = .ok (.aload_n 2, 1) := by decide +kernel
theorem dL_law_1175 : decode cL_law 1175 = .ok (.aload_n 0, 1) := by decide +kernel
theorem dL_law_1176 : decode cL_law 1176 = .ok (.iload_n 3, 1) := by decide +kernel
theorem dL_law_1177 : decode cL_law 1177 = .ok (.iconst 1, 1) := by decide +kernel
theorem dL_law_1178 : decode cL_law 1178 = .ok (.iadd, 1) := by decide +kernel
theorem dL_law_1179 : decode cL_law 1179 = .ok (.iaload, 1) := by decide +kernel
theorem dL_law_1180 : decode cL_law 1180 = .ok (.aload_n 0, 1) := by decide +kernel
theorem dL_law_1181 : decode cL_law 1181 = .ok (.iload_n 3, 1) := by decide +kernel
theorem dL_law_1182 : decode cL_law 1182 = .ok (.iconst 2, 1) := by decide +kernel
theorem dL_law_1183 : decode cL_law 1183 = .ok (.iadd, 1) := by decide +kernel
theorem dL_law_1184 : decode cL_law 1184 = .ok (.iaload, 1) := by decide +kernel
theorem dL_law_1185 : decode cL_law 1185 = .ok (.aload_n 0, 1) := by decide +kernel
theorem dL_law_1186 : decode cL_law 1186 = .ok (.iload_n 3, 1) := by decide +kernel
theorem dL_law_1187 : decode cL_law 1187 = .ok (.iconst 3, 1) := by decide +kernel
theorem dL_law_1188 : decode cL_law 1188 = .ok (.iadd, 1) := by decide +kernel
theorem dL_law_1189 : decode cL_law 1189 = .ok (.iaload, 1) := by decide +kernel
theorem dL_law_1190 : decode cL_law 1190 = .ok (.invokevirtual 170, 3) := by decide +kernel
theorem dL_law_1193 : decode cL_law 1193 = .ok (.if_icmp .eq 219, 3) := by decide +kernel
theorem dL_law_1196 : decode cL_law 1196 = .ok (.iconst 0, 1) := by decide +kernel
theorem dL_law_1197 : decode cL_law 1197 = .ok (.ireturn, 1) := by decide +kernel
theorem dL_law_1198 : decode cL_law 1198 = .ok (.aload_n 1, 1) := by decide +kernel
theorem dL_law_1199 : decode cL_law 1199 = .ok (.aload_n 0, 1) := by decide +kernel
theorem dL_law_1200 : decode cL_law 1200 = .ok (.iload_n 3, 1) := by decide +kernel
theorem dL_law_1201 : decode cL_law 1201 = .ok (.iconst 1, 1) := by decide +kernel
theorem dL_law_1202 : decode cL_law 1202 = .ok (.iadd, 1) := by decide +kernel
theorem dL_law_1203 : decode cL_law 1203 = .ok (.iaload, 1) := by decide +kernel
theorem dL_law_1204 : decode cL_law 1204 = .ok (.aload_n 0, 1) := by decide +kernel
theorem dL_law_1205 : decode cL_law 1205 = .ok (.iload_n 3, 1) := by decide +kernel
theorem dL_law_1206 : decode cL_law 1206 = .ok (.iconst 2, 1) := by decide +kernel
theorem dL_law_1207 : decode cL_law 1207 = .ok (.iadd, 1) := by decide +kernel
theorem dL_law_1208 : decode cL_law 1208 = .ok (.iaload, 1) := by decide +kernel
theorem dL_law_1209 : decode cL_law 1209 = .ok (.aload_n 0, 1) := by decide +kernel
theorem dL_law_1210 : decode cL_law 1210 = .ok (.iload_n 3, 1) := by decide +kernel
theorem dL_law_1211 : decode cL_law 1211 = .ok (.iconst 3, 1) := by decide +kernel
theorem dL_law_1212 : decode cL_law 1212 = .ok (.iadd, 1) := by decide +kernel
theorem dL_law_1213 : decode cL_law 1213 = .ok (.iaload, 1) := by decide +kernel
theorem dL_law_1214 : decode cL_law 1214 = .ok (.invokevirtual 171, 3) := by decide +kernel
theorem dL_law_1217 : decode cL_law 1217 = .ok (.aload_n 2, 1) := by decide +kernel
theorem dL_law_1218 : decode cL_law 1218 = .ok (.aload_n 0, 1) := by decide +kernel
theorem dL_law_1219 : decode cL_law 1219 = .ok (.iload_n 3, 1) := by decide +kernel
theorem dL_law_1220 : decode cL_law 1220 = .ok (.iconst 1, 1) := by decide +kernel
theorem dL_law_1221 : decode cL_law 1221 = .ok (.iadd, 1) := by decide +kernel
theorem dL_law_1222 : decode cL_law 1222 = .ok (.iaload, 1) := by decide +kernel
theorem dL_law_1223 : decode cL_law 1223 = .ok (.aload_n 0, 1) := by decide +kernel
theorem dL_law_1224 : decode cL_law 1224 = .ok (.iload_n 3, 1) := by decide +kernel
theorem dL_law_1225 : decode cL_law 1225 = .ok (.iconst 2, 1) := by decide +kernel
theorem dL_law_1226 : decode cL_law 1226 = .ok (.iadd, 1) := by decide +kernel
theorem dL_law_1227 : decode cL_law 1227 = .ok (.iaload, 1) := by decide +kernel
theorem dL_law_1228 : decode cL_law 1228 = .ok (.aload_n 0, 1) := by decide +kernel
theorem dL_law_1229 : decode cL_law 1229 = .ok (.iload_n 3, 1) := by decide +kernel
theorem dL_law_1230 : decode cL_law 1230 = .ok (.iconst 3, 1) := by decide +kernel
theorem dL_law_1231 : decode cL_law 1231 = .ok (.iadd, 1) := by decide +kernel
theorem dL_law_1232 : decode cL_law 1232 = .ok (.iaload, 1) := by decide +kernel
theorem dL_law_1233 : decode cL_law 1233 = .ok (.invokevirtual 174, 3) := by decide +kernel
theorem dL_law_1236 : decode cL_law 1236 = .ok (.if_icmp .eq 176, 3) := by decide +kernel
theorem dL_law_1239 : decode cL_law 1239 = .ok (.iconst 0, 1) := by decide +kernel
theorem dL_law_1240 : decode cL_law 1240 = .ok (.ireturn, 1) := by decide +kernel
theorem dL_law_1241 : decode cL_law 1241 = .ok (.aload_n 1, 1) := by decide +kernel
theorem dL_law_1242 : decode cL_law 1242 = .ok (.aload_n 0, 1) := by decide +kernel
theorem dL_law_1243 : decode cL_law 1243 = .ok (.iload_n 3, 1) := by decide +kernel
theorem dL_law_1244 : decode cL_law 1244 = .ok (.iconst 1, 1) := by decide +kernel
theorem dL_law_1245 : decode cL_law 1245 = .ok (.iadd, 1) := by decide +kernel
theorem dL_law_1246 : decode cL_law 1246 = .ok (.iaload, 1) := by decide +kernel
theorem dL_law_1247 : decode cL_law 1247 = .ok (.aload_n 0, 1) := by decide +kernel
theorem dL_law_1248 : decode cL_law 1248 = .ok (.iload_n 3, 1) := by decide +kernel
theorem dL_law_1249 : decode cL_law 1249 = .ok (.iconst 2, 1) := by decide +kernel
theorem dL_law_1250 : decode cL_law 1250 = .ok (.iadd, 1) := by decide +kernel
theorem dL_law_1251 : decode cL_law 1251 = .ok (.iaload, 1) := by decide +kernel
theorem dL_law_1252 : decode cL_law 1252 = .ok (.aload_n 0, 1) := by decide +kernel
theorem dL_law_1253 : decode cL_law 1253 = .ok (.iload_n 3, 1) := by decide +kernel
theorem dL_law_1254 : decode cL_law 1254 = .ok (.iconst 3, 1) := by decide +kernel
theorem dL_law_1255 : decode cL_law 1255 = .ok (.iadd, 1) := by decide +kernel
theorem dL_law_1256 : decode cL_law 1256 = .ok (.iaload, 1) := by decide +kernel
theorem dL_law_1257 : decode cL_law 1257 = .ok (.aload_n 0, 1) := by decide +kernel
theorem dL_law_1258 : decode cL_law 1258 = .ok (.iload_n 3, 1) := by decide +kernel
theorem dL_law_1259 : decode cL_law 1259 = .ok (.iconst 4, 1) := by decide +kernel
theorem dL_law_1260 : decode cL_law 1260 = .ok (.iadd, 1) := by decide +kernel
theorem dL_law_1261 : decode cL_law 1261 = .ok (.iaload, 1) := by decide +kernel
theorem dL_law_1262 : decode cL_law 1262 = .ok (.aload_n 0, 1) := by decide +kernel
theorem dL_law_1263 : decode cL_law 1263 = .ok (.iload_n 3, 1) := by decide +kernel
theorem dL_law_1264 : decode cL_law 1264 = .ok (.iconst 5, 1) := by decide +kernel
theorem dL_law_1265 : decode cL_law 1265 = .ok (.iadd, 1) := by decide +kernel
theorem dL_law_1266 : decode cL_law 1266 = .ok (.iaload, 1) := by decide +kernel
theorem dL_law_1267 : decode cL_law 1267 = .ok (.invokevirtual 175, 3) := by decide +kernel
theorem dL_law_1270 : decode cL_law 1270 = .ok (.aload_n 2, 1) := by decide +kernel
theorem dL_law_1271 : decode cL_law 1271 = .ok (.aload_n 0, 1) := by decide +kernel
theorem dL_law_1272 : decode cL_law 1272 = .ok (.iload_n 3, 1) := by decide +kernel
theorem dL_law_1273 : decode cL_law 1273 = .ok (.iconst 1, 1) := by decide +kernel
theorem dL_law_1274 : decode cL_law 1274 = .ok (.iadd, 1) := by decide +kernel
theorem dL_law_1275 : decode cL_law 1275 = .ok (.iaload, 1) := by decide +kernel
theorem dL_law_1276 : decode cL_law 1276 = .ok (.aload_n 0, 1) := by decide +kernel
theorem dL_law_1277 : decode cL_law 1277 = .ok (.iload_n 3, 1) := by decide +kernel
theorem dL_law_1278 : decode cL_law 1278 = .ok (.iconst 2, 1) := by decide +kernel
theorem dL_law_1279 : decode cL_law 1279 = .ok (.iadd, 1) := by decide +kernel
theorem dL_law_1280 : decode cL_law 1280 = .ok (.iaload, 1) := by decide +kernel
theorem dL_law_1281 : decode cL_law 1281 = .ok (.aload_n 0, 1) := by decide +kernel
theorem dL_law_1282 : decode cL_law 1282 = .ok (.iload_n 3, 1) := by decide +kernel
theorem dL_law_1283 : decode cL_law 1283 = .ok (.iconst 3, 1) := by decide +kernel
theorem dL_law_1284 : decode cL_law 1284 = .ok (.iadd, 1) := by decide +kernel
theorem dL_law_1285 : decode cL_law 1285 = .ok (.iaload, 1) := by decide +kernel
theorem dL_law_1286 : decode cL_law 1286 = .ok (.aload_n 0, 1) := by decide +kernel
theorem dL_law_1287 : decode cL_law 1287 = .ok (.iload_n 3, 1) := by decide +kernel
theorem dL_law_1288 : decode cL_law 1288 = .ok (.iconst 4, 1) := by decide +kernel
theorem dL_law_1289 : decode cL_law 1289 = .ok (.iadd, 1) := by decide +kernel
theorem dL_law_1290 : decode cL_law 1290 = .ok (.iaload, 1) := by decide +kernel
theorem dL_law_1291 : decode cL_law 1291 = .ok (.aload_n 0, 1) := by decide +kernel
theorem dL_law_1292 : decode cL_law 1292 = .ok (.iload_n 3, 1) := by decide +kernel
theorem dL_law_1293 : decode cL_law 1293 = .ok (.iconst 5, 1) := by decide +kernel
theorem dL_law_1294 : decode cL_law 1294 = .ok (.iadd, 1) := by decide +kernel
theorem dL_law_1295 : decode cL_law 1295 = .ok (.iaload, 1) := by decide +kernel
theorem dL_law_1296 : decode cL_law 1296 = .ok (.invokevirtual 179, 3) := by decide +kernel
theorem dL_law_1299 : decode cL_law 1299 = .ok (.if_icmp .eq 113, 3) := by decide +kernel
theorem dL_law_1302 : decode cL_law 1302 = .ok (.iconst 0, 1) := by decide +kernel
theorem dL_law_1303 : decode cL_law 1303 = .ok (.ireturn, 1) := by decide +kernel
theorem dL_law_1304 : decode cL_law 1304 = .ok (.aload_n 1, 1) := by decide +kernel
theorem dL_law_1305 : decode cL_law 1305 = .ok (.aload_n 0, 1) := by decide +kernel
theorem dL_law_1306 : decode cL_law 1306 = .ok (.iload_n 3, 1) := by decide +kernel
theorem dL_law_1307 : decode cL_law 1307 = .ok (.iconst 1, 1) := by decide +kernel
theorem dL_law_1308 : decode cL_law 1308 = .ok (.iadd, 1) := by decide +kernel
theorem dL_law_1309 : decode cL_law 1309 = .ok (.iaload, 1) := by decide +kernel
theorem dL_law_1310 : decode cL_law 1310 = .ok (.invokevirtual 180, 3) := by decide +kernel
theorem dL_law_1313 : decode cL_law 1313 = .ok (.aload_n 2, 1) := by decide +kernel
theorem dL_law_1314 : decode cL_law 1314 = .ok (.aload_n 0, 1) := by decide +kernel
theorem dL_law_1315 : decode cL_law 1315 = .ok (.iload_n 3, 1) := by decide +kernel
theorem dL_law_1316 : decode cL_law 1316 = .ok (.iconst 1, 1) := by decide +kernel
theorem dL_law_1317 : decode cL_law 1317 = .ok (.iadd, 1) := by decide +kernel
theorem dL_law_1318 : decode cL_law 1318 = .ok (.iaload, 1) := by decide +kernel
theorem dL_law_1319 : decode cL_law 1319 = .ok (.invokevirtual 183, 3) := by decide +kernel
theorem dL_law_1322 : decode cL_law 1322 = .ok (.if_icmp .eq 90, 3) := by decide +kernel
theorem dL_law_1325 : decode cL_law 1325 = .ok (.iconst 0, 1) := by decide +kernel
theorem dL_law_1326 : decode cL_law 1326 = .ok (.ireturn, 1) := by decide +kernel
theorem dL_law_1327 : decode cL_law 1327 = .ok (.aload_n 1, 1) := by decide +kernel
theorem dL_law_1328 : decode cL_law 1328 = .ok (.invokevirtual 184, 3) := by decide +kernel
theorem dL_law_1331 : decode cL_law 1331 = .ok (.aload_n 2, 1) := by decide +kernel
theorem dL_law_1332 : decode cL_law 1332 = .ok (.invokevirtual 187, 3) := by decide +kernel
theorem dL_law_1335 : decode cL_law 1335 = .ok (.if_icmp .eq 77, 3) := by decide +kernel
theorem dL_law_1338 : decode cL_law 1338 = .ok (.iconst 0, 1) := by decide +kernel
theorem dL_law_1339 : decode cL_law 1339 = .ok (.ireturn, 1) := by decide +kernel
theorem dL_law_1340 : decode cL_law 1340 = .ok (.aload_n 1, 1) := by decide +kernel
theorem dL_law_1341 : decode cL_law 1341 = .ok (.invokevirtual 188, 3) := by decide +kernel
theorem dL_law_1344 : decode cL_law 1344 = .ok (.aload_n 2, 1) := by decide +kernel
theorem dL_law_1345 : decode cL_law 1345 = .ok (.invokevirtual 191, 3) := by decide +kernel
theorem dL_law_1348 : decode cL_law 1348 = .ok (.if_icmp .eq 64, 3) := by decide +kernel
theorem dL_law_1351 : decode cL_law 1351 = .ok (.iconst 0, 1) := by decide +kernel
theorem dL_law_1352 : decode cL_law 1352 = .ok (.ireturn, 1) := by decide +kernel
theorem dL_law_1353 : decode cL_law 1353 = .ok (.aload_n 1, 1) := by decide +kernel
theorem dL_law_1354 : decode cL_law 1354 = .ok (.invokevirtual 192, 3) := by decide +kernel
theorem dL_law_1357 : decode cL_law 1357 = .ok (.aload_n 2, 1) := by decide +kernel
theorem dL_law_1358 : decode cL_law 1358 = .ok (.invokevirtual 195, 3) := by decide +kernel
theorem dL_law_1361 : decode cL_law 1361 = .ok (.if_icmp .eq 51, 3) := by decide +kernel
theorem dL_law_1364 : decode cL_law 1364 = .ok (.iconst 0, 1) := by decide +kernel
theorem dL_law_1365 : decode cL_law 1365 = .ok (.ireturn, 1) := by decide +kernel
theorem dL_law_1366 : decode cL_law 1366 = .ok (.aload_n 1, 1) := by decide +kernel
theorem dL_law_1367 : decode cL_law 1367 = .ok (.aload_n 0, 1) := by decide +kernel
theorem dL_law_1368 : decode cL_law 1368 = .ok (.iload_n 3, 1) := by decide +kernel
theorem dL_law_1369 : decode cL_law 1369 = .ok (.iconst 1, 1) := by decide +kernel
theorem dL_law_1370 : decode cL_law 1370 = .ok (.iadd, 1) := by decide +kernel
theorem dL_law_1371 : decode cL_law 1371 = .ok (.iaload, 1) := by decide +kernel
theorem dL_law_1372 : decode cL_law 1372 = .ok (.invokevirtual 196, 3) := by decide +kernel
theorem dL_law_1375 : decode cL_law 1375 = .ok (.aload_n 2, 1) := by decide +kernel
theorem dL_law_1376 : decode cL_law 1376 = .ok (.aload_n 0, 1) := by decide +kernel
theorem dL_law_1377 : decode cL_law 1377 = .ok (.iload_n 3, 1) := by decide +kernel
theorem dL_law_1378 : decode cL_law 1378 = .ok (.iconst 1, 1) := by decide +kernel
theorem dL_law_1379 : decode cL_law 1379 = .ok (.iadd, 1) := by decide +kernel
theorem dL_law_1380 : decode cL_law 1380 = .ok (.iaload, 1) := by decide +kernel
theorem dL_law_1381 : decode cL_law 1381 = .ok (.invokevirtual 199, 3) := by decide +kernel
theorem dL_law_1384 : decode cL_law 1384 = .ok (.if_icmp .eq 28, 3) := by decide +kernel
theorem dL_law_1387 : decode cL_law 1387 = .ok (.iconst 0, 1) := by decide +kernel
theorem dL_law_1388 : decode cL_law 1388 = .ok (.ireturn, 1) := by decide +kernel
theorem dL_law_1389 : decode cL_law 1389 = .ok (.aload_n 1, 1) := by decide +kernel
theorem dL_law_1390 : decode cL_law 1390 = .ok (.aload_n 0, 1) := by decide +kernel
theorem dL_law_1391 : decode cL_law 1391 = .ok (.iload_n 3, 1) := by decide +kernel
theorem dL_law_1392 : decode cL_law 1392 = .ok (.iconst 1, 1) := by decide +kernel
theorem dL_law_1393 : decode cL_law 1393 = .ok (.iadd, 1) := by decide +kernel
theorem dL_law_1394 : decode cL_law 1394 = .ok (.iaload, 1) := by decide +kernel
theorem dL_law_1395 : decode cL_law 1395 = .ok (.invokevirtual 200, 3) := by decide +kernel
theorem dL_law_1398 : decode cL_law 1398 = .ok (.aload_n 2, 1) := by decide +kernel
theorem dL_law_1399 : decode cL_law 1399 = .ok (.aload_n 0, 1) := by decide +kernel
theorem dL_law_1400 : decode cL_law 1400 = .ok (.iload_n 3, 1) := by decide +kernel
theorem dL_law_1401 : decode cL_law 1401 = .ok (.iconst 1, 1) := by decide +kernel
theorem dL_law_1402 : decode cL_law 1402 = .ok (.iadd, 1) := by decide +kernel
theorem dL_law_1403 : decode cL_law 1403 = .ok (.iaload, 1) := by decide +kernel
theorem dL_law_1404 : decode cL_law 1404 = .ok (.invokevirtual 203, 3) := by decide +kernel
theorem dL_law_1407 : decode cL_law 1407 = .ok (.if_icmp .eq 5, 3) := by decide +kernel
theorem dL_law_1410 : decode cL_law 1410 = .ok (.iconst 0, 1) := by decide +kernel
theorem dL_law_1411 : decode cL_law 1411 = .ok (.ireturn, 1) := by decide +kernel
theorem dL_law_1412 : decode cL_law 1412 = .ok (.iinc 3 6, 3) := by decide +kernel
theorem dL_law_1415 : decode cL_law 1415 = .ok (.goto (-1397), 3) := by decide +kernel
theorem dL_law_1418 : decode cL_law 1418 = .ok (.iconst 1, 1) := by decide +kernel
theorem dL_law_1419 : decode cL_law 1419 = .ok (.ireturn, 1) := by decide +kernel
