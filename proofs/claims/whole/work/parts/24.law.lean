/-! Printed by wip/gen.py: the law's own instructions (its words are lw_tbl's). -/
theorem tl {w : Cond} (h : w ∈ mTg) : w ∈ lw_tbl := (List.mem_filter.mp h).1
set_option maxRecDepth 100000 in
theorem sr_L_law_0 (X : mx_X0) : mx_Ok (mE X) mt lw_tbl "CountDeskLaw" false code 4 (mx_pc pc_L_law) 0 (.inl (x_new 1 3 5)) := sn_new (idx := 7) (tf := ty_3) (by decide +kernel) rfl rfl (fun w hw => tl (mc_3 w hw)) (tl wm_313) (tl wm_314) (tl wm_10) ty_3_ok dv_3
set_option maxRecDepth 100000 in
theorem sr_L_law_1 (X : mx_X0) : mx_Ok (mE X) mt lw_tbl "CountDeskLaw" false code 4 (mx_pc pc_L_law) 1 (.inl (x_dup 2)) := sn_dup (by decide +kernel) rfl
set_option maxRecDepth 100000 in
theorem sr_L_law_2 (X : mx_X0) : mx_Ok (mE X) mt lw_tbl "CountDeskLaw" false code 4 (mx_pc pc_L_law) 2 (.inr (.inl (0, 1, 3, 1))) := ⟨rfl, tl wm_10, ⟨by decide +kernel, by decide +kernel⟩, by decide +kernel, rfl, rfl, tl wm_316, 9, (Or.inl (tl wm_315)), by decide +kernel⟩
set_option maxRecDepth 100000 in
theorem sr_L_law_3 (X : mx_X0) : mx_Ok (mE X) mt lw_tbl "CountDeskLaw" false code 4 (mx_pc pc_L_law) 3 (.inl (x_ast 4 1)) := sn_astn (k := 1) (by decide +kernel) rfl rfl (by decide)
set_option maxRecDepth 100000 in
theorem sr_L_law_4 (X : mx_X0) : mx_Ok (mE X) mt lw_tbl "CountDeskLaw" false code 4 (mx_pc pc_L_law) 4 (.inl (x_new 5 4 29)) := sn_new (idx := 10) (tf := ty_4) (by decide +kernel) rfl rfl (fun w hw => tl (mc_4 w hw)) (tl wm_317) (tl wm_318) (tl wm_225) ty_4_ok dv_4
set_option maxRecDepth 100000 in
theorem sr_L_law_5 (X : mx_X0) : mx_Ok (mE X) mt lw_tbl "CountDeskLaw" false code 4 (mx_pc pc_L_law) 5 (.inl (x_dup 6)) := sn_dup (by decide +kernel) rfl
set_option maxRecDepth 100000 in
theorem sr_L_law_6 (X : mx_X0) : mx_Ok (mE X) mt lw_tbl "CountDeskLaw" false code 4 (mx_pc pc_L_law) 6 (.inr (.inl (52, 1, 7, 1))) := ⟨rfl, tl wm_225, ⟨by decide +kernel, by decide +kernel⟩, by decide +kernel, rfl, rfl, tl wm_320, 12, (Or.inl (tl wm_319)), by decide +kernel⟩
set_option maxRecDepth 100000 in
theorem sr_L_law_7 (X : mx_X0) : mx_Ok (mE X) mt lw_tbl "CountDeskLaw" false code 4 (mx_pc pc_L_law) 7 (.inl (x_ast 8 2)) := sn_astn (k := 2) (by decide +kernel) rfl rfl (by decide)
set_option maxRecDepth 100000 in
theorem sr_L_law_8 (X : mx_X0) : mx_Ok (mE X) mt lw_tbl "CountDeskLaw" false code 4 (mx_pc pc_L_law) 8 (.inl (x_ic 9 0)) := sn_ic1 (k := 0) (by decide +kernel) rfl (by decide +kernel)
set_option maxRecDepth 100000 in
theorem sr_L_law_9 (X : mx_X0) : mx_Ok (mE X) mt lw_tbl "CountDeskLaw" false code 4 (mx_pc pc_L_law) 9 (.inl (x_ist 10 3)) := sn_istn (k := 3) (by decide +kernel) rfl rfl (by decide)
set_option maxRecDepth 100000 in
theorem sr_L_law_10 (X : mx_X0) : mx_Ok (mE X) mt lw_tbl "CountDeskLaw" false code 4 (mx_pc pc_L_law) 10 (.inl (x_ild 11 3)) := sn_ildn (k := 3) (by decide +kernel) rfl rfl
set_option maxRecDepth 100000 in
theorem sr_L_law_11 (X : mx_X0) : mx_Ok (mE X) mt lw_tbl "CountDeskLaw" false code 4 (mx_pc pc_L_law) 11 (.inl (x_ald 12 0)) := sn_aldn (k := 0) (by decide +kernel) rfl rfl
set_option maxRecDepth 100000 in
theorem sr_L_law_12 (X : mx_X0) : mx_Ok (mE X) mt lw_tbl "CountDeskLaw" false code 4 (mx_pc pc_L_law) 12 (.inl (x_sln 13 (eSb (mE X)) (eSL (mE X)))) := sn_sln (by decide +kernel) rfl
set_option maxRecDepth 100000 in
theorem sr_L_law_13 (X : mx_X0) : mx_Ok (mE X) mt lw_tbl "CountDeskLaw" false code 4 (mx_pc pc_L_law) 13 (.inl (x_ic 14 5)) := sn_ic1 (k := 5) (by decide +kernel) rfl (by decide +kernel)
set_option maxRecDepth 100000 in
theorem sr_L_law_14 (X : mx_X0) : mx_Ok (mE X) mt lw_tbl "CountDeskLaw" false code 4 (mx_pc pc_L_law) 14 (.inl (x_isub 15)) := sn_isub (by decide +kernel) rfl
set_option maxRecDepth 100000 in
theorem sr_L_law_15 (X : mx_X0) : mx_Ok (mE X) mt lw_tbl "CountDeskLaw" false code 4 (mx_pc pc_L_law) 15 (.inl (x_cgt 16 252)) := sn_cgt (tg := 382) (off := 359) (by decide +kernel) rfl rfl (by decide +kernel)
set_option maxRecDepth 100000 in
theorem sr_L_law_16 (X : mx_X0) : mx_Ok (mE X) mt lw_tbl "CountDeskLaw" false code 4 (mx_pc pc_L_law) 16 (.inl (x_ald 17 0)) := sn_aldn (k := 0) (by decide +kernel) rfl rfl
set_option maxRecDepth 100000 in
theorem sr_L_law_17 (X : mx_X0) : mx_Ok (mE X) mt lw_tbl "CountDeskLaw" false code 4 (mx_pc pc_L_law) 17 (.inl (x_ild 18 3)) := sn_ildn (k := 3) (by decide +kernel) rfl rfl
set_option maxRecDepth 100000 in
theorem sr_L_law_18 (X : mx_X0) : mx_Ok (mE X) mt lw_tbl "CountDeskLaw" false code 4 (mx_pc pc_L_law) 18 (.inl (x_sld 19 (eSb (mE X)) (eSL (mE X)) (eSx (mE X)))) := sn_sld (by decide +kernel) rfl
set_option maxRecDepth 100000 in
theorem sr_L_law_19 (X : mx_X0) : mx_Ok (mE X) mt lw_tbl "CountDeskLaw" false code 4 (mx_pc pc_L_law) 19 (.inl (x_ic 20 15)) := sn_ic2 (k := 15) (by decide +kernel) rfl (by decide +kernel)
set_option maxRecDepth 100000 in
theorem sr_L_law_20 (X : mx_X0) : mx_Ok (mE X) mt lw_tbl "CountDeskLaw" false code 4 (mx_pc pc_L_law) 20 (.inl (x_iand 21)) := sn_iand (by decide +kernel) rfl
set_option maxRecDepth 100000 in
theorem sr_L_law_21 (X : mx_X0) : mx_Ok (mE X) mt lw_tbl "CountDeskLaw" false code 4 (mx_pc pc_L_law) 21 (.inl (x_sw [(0, 22), (1, 27), (2, 44), (3, 71), (4, 98), (5, 145), (6, 162), (7, 179), (8, 206), (9, 223)] 250)) := sn_tsw (dflt := 344) (lo := 0) (hi := 9) (offs := #[56, 67, 90, 123, 156, 209, 232, 255, 288, 311]) (len := 56) (by decide +kernel) (by decide +kernel) (by decide +kernel) (by decide +kernel)
set_option maxRecDepth 100000 in
theorem sr_L_law_22 (X : mx_X0) : mx_Ok (mE X) mt lw_tbl "CountDeskLaw" false code 4 (mx_pc pc_L_law) 22 (.inl (x_ald 23 1)) := sn_aldn (k := 1) (by decide +kernel) rfl rfl
set_option maxRecDepth 100000 in
theorem sr_L_law_23 (X : mx_X0) : mx_Ok (mE X) mt lw_tbl "CountDeskLaw" false code 4 (mx_pc pc_L_law) 23 (.inr (.inl (6, 1, 24, 5))) := ⟨rfl, tl wm_10, ⟨by decide +kernel, by decide +kernel⟩, by decide +kernel, tl wm_322, tl wm_323, ⟨_, _, rfl⟩, 13, (Or.inl (tl wm_321)), by decide +kernel⟩
set_option maxRecDepth 100000 in
theorem sr_L_law_24 (X : mx_X0) : mx_Ok (mE X) mt lw_tbl "CountDeskLaw" false code 4 (mx_pc pc_L_law) 24 (.inl (x_ald 25 2)) := sn_aldn (k := 2) (by decide +kernel) rfl rfl
set_option maxRecDepth 100000 in
theorem sr_L_law_25 (X : mx_X0) : mx_Ok (mE X) mt lw_tbl "CountDeskLaw" false code 4 (mx_pc pc_L_law) 25 (.inr (.inl (55, 1, 26, 6))) := ⟨rfl, tl wm_225, ⟨by decide +kernel, by decide +kernel⟩, by decide +kernel, tl wm_325, tl wm_326, ⟨_, _, rfl⟩, 16, (Or.inl (tl wm_324)), by decide +kernel⟩
set_option maxRecDepth 100000 in
theorem sr_L_law_26 (X : mx_X0) : mx_Ok (mE X) mt lw_tbl "CountDeskLaw" false code 4 (mx_pc pc_L_law) 26 (.inl (x_goto 250)) := sn_goto (tg := 376) (off := 280) (by decide +kernel) rfl (by decide +kernel)
set_option maxRecDepth 100000 in
theorem sr_L_law_27 (X : mx_X0) : mx_Ok (mE X) mt lw_tbl "CountDeskLaw" false code 4 (mx_pc pc_L_law) 27 (.inl (x_ald 28 1)) := sn_aldn (k := 1) (by decide +kernel) rfl rfl
set_option maxRecDepth 100000 in
theorem sr_L_law_28 (X : mx_X0) : mx_Ok (mE X) mt lw_tbl "CountDeskLaw" false code 4 (mx_pc pc_L_law) 28 (.inl (x_ald 29 0)) := sn_aldn (k := 0) (by decide +kernel) rfl rfl
set_option maxRecDepth 100000 in
theorem sr_L_law_29 (X : mx_X0) : mx_Ok (mE X) mt lw_tbl "CountDeskLaw" false code 4 (mx_pc pc_L_law) 29 (.inl (x_ild 30 3)) := sn_ildn (k := 3) (by decide +kernel) rfl rfl
set_option maxRecDepth 100000 in
theorem sr_L_law_30 (X : mx_X0) : mx_Ok (mE X) mt lw_tbl "CountDeskLaw" false code 4 (mx_pc pc_L_law) 30 (.inl (x_ic 31 1)) := sn_ic1 (k := 1) (by decide +kernel) rfl (by decide +kernel)
set_option maxRecDepth 100000 in
theorem sr_L_law_31 (X : mx_X0) : mx_Ok (mE X) mt lw_tbl "CountDeskLaw" false code 4 (mx_pc pc_L_law) 31 (.inl (x_iadd 32)) := sn_iadd (by decide +kernel) rfl
set_option maxRecDepth 100000 in
theorem sr_L_law_32 (X : mx_X0) : mx_Ok (mE X) mt lw_tbl "CountDeskLaw" false code 4 (mx_pc pc_L_law) 32 (.inl (x_sld 33 (eSb (mE X)) (eSL (mE X)) (eSx (mE X)))) := sn_sld (by decide +kernel) rfl
set_option maxRecDepth 100000 in
theorem sr_L_law_33 (X : mx_X0) : mx_Ok (mE X) mt lw_tbl "CountDeskLaw" false code 4 (mx_pc pc_L_law) 33 (.inr (.inl (7, 2, 34, 5))) := ⟨rfl, tl wm_10, ⟨by decide +kernel, by decide +kernel⟩, by decide +kernel, tl wm_328, tl wm_329, ⟨_, _, rfl⟩, 17, (Or.inl (tl wm_327)), by decide +kernel⟩
set_option maxRecDepth 100000 in
theorem sr_L_law_34 (X : mx_X0) : mx_Ok (mE X) mt lw_tbl "CountDeskLaw" false code 4 (mx_pc pc_L_law) 34 (.inl (x_ald 35 2)) := sn_aldn (k := 2) (by decide +kernel) rfl rfl
set_option maxRecDepth 100000 in
theorem sr_L_law_35 (X : mx_X0) : mx_Ok (mE X) mt lw_tbl "CountDeskLaw" false code 4 (mx_pc pc_L_law) 35 (.inl (x_ald 36 0)) := sn_aldn (k := 0) (by decide +kernel) rfl rfl
set_option maxRecDepth 100000 in
theorem sr_L_law_36 (X : mx_X0) : mx_Ok (mE X) mt lw_tbl "CountDeskLaw" false code 4 (mx_pc pc_L_law) 36 (.inl (x_ild 37 3)) := sn_ildn (k := 3) (by decide +kernel) rfl rfl
set_option maxRecDepth 100000 in
theorem sr_L_law_37 (X : mx_X0) : mx_Ok (mE X) mt lw_tbl "CountDeskLaw" false code 4 (mx_pc pc_L_law) 37 (.inl (x_ic 38 1)) := sn_ic1 (k := 1) (by decide +kernel) rfl (by decide +kernel)
set_option maxRecDepth 100000 in
theorem sr_L_law_38 (X : mx_X0) : mx_Ok (mE X) mt lw_tbl "CountDeskLaw" false code 4 (mx_pc pc_L_law) 38 (.inl (x_iadd 39)) := sn_iadd (by decide +kernel) rfl
set_option maxRecDepth 100000 in
theorem sr_L_law_39 (X : mx_X0) : mx_Ok (mE X) mt lw_tbl "CountDeskLaw" false code 4 (mx_pc pc_L_law) 39 (.inl (x_sld 40 (eSb (mE X)) (eSL (mE X)) (eSx (mE X)))) := sn_sld (by decide +kernel) rfl
set_option maxRecDepth 100000 in
theorem sr_L_law_40 (X : mx_X0) : mx_Ok (mE X) mt lw_tbl "CountDeskLaw" false code 4 (mx_pc pc_L_law) 40 (.inr (.inl (56, 2, 41, 6))) := ⟨rfl, tl wm_225, ⟨by decide +kernel, by decide +kernel⟩, by decide +kernel, tl wm_331, tl wm_332, ⟨_, _, rfl⟩, 21, (Or.inl (tl wm_330)), by decide +kernel⟩
set_option maxRecDepth 100000 in
theorem sr_L_law_41 (X : mx_X0) : mx_Ok (mE X) mt lw_tbl "CountDeskLaw" false code 4 (mx_pc pc_L_law) 41 (.inl (x_ceq 42 250)) := sn_ceq (tg := 376) (off := 259) (by decide +kernel) rfl rfl (by decide +kernel)
set_option maxRecDepth 100000 in
theorem sr_L_law_42 (X : mx_X0) : mx_Ok (mE X) mt lw_tbl "CountDeskLaw" false code 4 (mx_pc pc_L_law) 42 (.inl (x_ic 43 0)) := sn_ic1 (k := 0) (by decide +kernel) rfl (by decide +kernel)
set_option maxRecDepth 100000 in
theorem sr_L_law_43 (X : mx_X0) : mx_Ok (mE X) mt lw_tbl "CountDeskLaw" false code 4 (mx_pc pc_L_law) 43 (.inr (.inr 3)) := trivial
set_option maxRecDepth 100000 in
theorem sr_L_law_44 (X : mx_X0) : mx_Ok (mE X) mt lw_tbl "CountDeskLaw" false code 4 (mx_pc pc_L_law) 44 (.inl (x_ald 45 1)) := sn_aldn (k := 1) (by decide +kernel) rfl rfl
set_option maxRecDepth 100000 in
theorem sr_L_law_45 (X : mx_X0) : mx_Ok (mE X) mt lw_tbl "CountDeskLaw" false code 4 (mx_pc pc_L_law) 45 (.inl (x_ald 46 0)) := sn_aldn (k := 0) (by decide +kernel) rfl rfl
set_option maxRecDepth 100000 in
theorem sr_L_law_46 (X : mx_X0) : mx_Ok (mE X) mt lw_tbl "CountDeskLaw" false code 4 (mx_pc pc_L_law) 46 (.inl (x_ild 47 3)) := sn_ildn (k := 3) (by decide +kernel) rfl rfl
set_option maxRecDepth 100000 in
theorem sr_L_law_47 (X : mx_X0) : mx_Ok (mE X) mt lw_tbl "CountDeskLaw" false code 4 (mx_pc pc_L_law) 47 (.inl (x_ic 48 1)) := sn_ic1 (k := 1) (by decide +kernel) rfl (by decide +kernel)
set_option maxRecDepth 100000 in
theorem sr_L_law_48 (X : mx_X0) : mx_Ok (mE X) mt lw_tbl "CountDeskLaw" false code 4 (mx_pc pc_L_law) 48 (.inl (x_iadd 49)) := sn_iadd (by decide +kernel) rfl
set_option maxRecDepth 100000 in
theorem sr_L_law_49 (X : mx_X0) : mx_Ok (mE X) mt lw_tbl "CountDeskLaw" false code 4 (mx_pc pc_L_law) 49 (.inl (x_sld 50 (eSb (mE X)) (eSL (mE X)) (eSx (mE X)))) := sn_sld (by decide +kernel) rfl
set_option maxRecDepth 100000 in
theorem sr_L_law_50 (X : mx_X0) : mx_Ok (mE X) mt lw_tbl "CountDeskLaw" false code 4 (mx_pc pc_L_law) 50 (.inl (x_ald 51 0)) := sn_aldn (k := 0) (by decide +kernel) rfl rfl
set_option maxRecDepth 100000 in
theorem sr_L_law_51 (X : mx_X0) : mx_Ok (mE X) mt lw_tbl "CountDeskLaw" false code 4 (mx_pc pc_L_law) 51 (.inl (x_ild 52 3)) := sn_ildn (k := 3) (by decide +kernel) rfl rfl
set_option maxRecDepth 100000 in
theorem sr_L_law_52 (X : mx_X0) : mx_Ok (mE X) mt lw_tbl "CountDeskLaw" false code 4 (mx_pc pc_L_law) 52 (.inl (x_ic 53 2)) := sn_ic1 (k := 2) (by decide +kernel) rfl (by decide +kernel)
set_option maxRecDepth 100000 in
theorem sr_L_law_53 (X : mx_X0) : mx_Ok (mE X) mt lw_tbl "CountDeskLaw" false code 4 (mx_pc pc_L_law) 53 (.inl (x_iadd 54)) := sn_iadd (by decide +kernel) rfl
set_option maxRecDepth 100000 in
theorem sr_L_law_54 (X : mx_X0) : mx_Ok (mE X) mt lw_tbl "CountDeskLaw" false code 4 (mx_pc pc_L_law) 54 (.inl (x_sld 55 (eSb (mE X)) (eSL (mE X)) (eSx (mE X)))) := sn_sld (by decide +kernel) rfl
set_option maxRecDepth 100000 in
theorem sr_L_law_55 (X : mx_X0) : mx_Ok (mE X) mt lw_tbl "CountDeskLaw" false code 4 (mx_pc pc_L_law) 55 (.inr (.inl (10, 3, 56, 5))) := ⟨rfl, tl wm_10, ⟨by decide +kernel, by decide +kernel⟩, by decide +kernel, tl wm_334, tl wm_335, ⟨_, _, rfl⟩, 22, (Or.inl (tl wm_333)), by decide +kernel⟩
set_option maxRecDepth 100000 in
theorem sr_L_law_56 (X : mx_X0) : mx_Ok (mE X) mt lw_tbl "CountDeskLaw" false code 4 (mx_pc pc_L_law) 56 (.inl (x_ald 57 2)) := sn_aldn (k := 2) (by decide +kernel) rfl rfl
set_option maxRecDepth 100000 in
theorem sr_L_law_57 (X : mx_X0) : mx_Ok (mE X) mt lw_tbl "CountDeskLaw" false code 4 (mx_pc pc_L_law) 57 (.inl (x_ald 58 0)) := sn_aldn (k := 0) (by decide +kernel) rfl rfl
set_option maxRecDepth 100000 in
theorem sr_L_law_58 (X : mx_X0) : mx_Ok (mE X) mt lw_tbl "CountDeskLaw" false code 4 (mx_pc pc_L_law) 58 (.inl (x_ild 59 3)) := sn_ildn (k := 3) (by decide +kernel) rfl rfl
set_option maxRecDepth 100000 in
theorem sr_L_law_59 (X : mx_X0) : mx_Ok (mE X) mt lw_tbl "CountDeskLaw" false code 4 (mx_pc pc_L_law) 59 (.inl (x_ic 60 1)) := sn_ic1 (k := 1) (by decide +kernel) rfl (by decide +kernel)
set_option maxRecDepth 100000 in
theorem sr_L_law_60 (X : mx_X0) : mx_Ok (mE X) mt lw_tbl "CountDeskLaw" false code 4 (mx_pc pc_L_law) 60 (.inl (x_iadd 61)) := sn_iadd (by decide +kernel) rfl
set_option maxRecDepth 100000 in
theorem sr_L_law_61 (X : mx_X0) : mx_Ok (mE X) mt lw_tbl "CountDeskLaw" false code 4 (mx_pc pc_L_law) 61 (.inl (x_sld 62 (eSb (mE X)) (eSL (mE X)) (eSx (mE X)))) := sn_sld (by decide +kernel) rfl
set_option maxRecDepth 100000 in
theorem sr_L_law_62 (X : mx_X0) : mx_Ok (mE X) mt lw_tbl "CountDeskLaw" false code 4 (mx_pc pc_L_law) 62 (.inl (x_ald 63 0)) := sn_aldn (k := 0) (by decide +kernel) rfl rfl
set_option maxRecDepth 100000 in
theorem sr_L_law_63 (X : mx_X0) : mx_Ok (mE X) mt lw_tbl "CountDeskLaw" false code 4 (mx_pc pc_L_law) 63 (.inl (x_ild 64 3)) := sn_ildn (k := 3) (by decide +kernel) rfl rfl
set_option maxRecDepth 100000 in
theorem sr_L_law_64 (X : mx_X0) : mx_Ok (mE X) mt lw_tbl "CountDeskLaw" false code 4 (mx_pc pc_L_law) 64 (.inl (x_ic 65 2)) := sn_ic1 (k := 2) (by decide +kernel) rfl (by decide +kernel)
set_option maxRecDepth 100000 in
theorem sr_L_law_65 (X : mx_X0) : mx_Ok (mE X) mt lw_tbl "CountDeskLaw" false code 4 (mx_pc pc_L_law) 65 (.inl (x_iadd 66)) := sn_iadd (by decide +kernel) rfl
set_option maxRecDepth 100000 in
theorem sr_L_law_66 (X : mx_X0) : mx_Ok (mE X) mt lw_tbl "CountDeskLaw" false code 4 (mx_pc pc_L_law) 66 (.inl (x_sld 67 (eSb (mE X)) (eSL (mE X)) (eSx (mE X)))) := sn_sld (by decide +kernel) rfl
set_option maxRecDepth 100000 in
theorem sr_L_law_67 (X : mx_X0) : mx_Ok (mE X) mt lw_tbl "CountDeskLaw" false code 4 (mx_pc pc_L_law) 67 (.inr (.inl (57, 3, 68, 6))) := ⟨rfl, tl wm_225, ⟨by decide +kernel, by decide +kernel⟩, by decide +kernel, tl wm_337, tl wm_338, ⟨_, _, rfl⟩, 26, (Or.inl (tl wm_336)), by decide +kernel⟩
set_option maxRecDepth 100000 in
theorem sr_L_law_68 (X : mx_X0) : mx_Ok (mE X) mt lw_tbl "CountDeskLaw" false code 4 (mx_pc pc_L_law) 68 (.inl (x_ceq 69 250)) := sn_ceq (tg := 376) (off := 226) (by decide +kernel) rfl rfl (by decide +kernel)
set_option maxRecDepth 100000 in
theorem sr_L_law_69 (X : mx_X0) : mx_Ok (mE X) mt lw_tbl "CountDeskLaw" false code 4 (mx_pc pc_L_law) 69 (.inl (x_ic 70 0)) := sn_ic1 (k := 0) (by decide +kernel) rfl (by decide +kernel)
set_option maxRecDepth 100000 in
theorem sr_L_law_70 (X : mx_X0) : mx_Ok (mE X) mt lw_tbl "CountDeskLaw" false code 4 (mx_pc pc_L_law) 70 (.inr (.inr 3)) := trivial
set_option maxRecDepth 100000 in
theorem sr_L_law_71 (X : mx_X0) : mx_Ok (mE X) mt lw_tbl "CountDeskLaw" false code 4 (mx_pc pc_L_law) 71 (.inl (x_ald 72 1)) := sn_aldn (k := 1) (by decide +kernel) rfl rfl
set_option maxRecDepth 100000 in
theorem sr_L_law_72 (X : mx_X0) : mx_Ok (mE X) mt lw_tbl "CountDeskLaw" false code 4 (mx_pc pc_L_law) 72 (.inl (x_ald 73 0)) := sn_aldn (k := 0) (by decide +kernel) rfl rfl
set_option maxRecDepth 100000 in
theorem sr_L_law_73 (X : mx_X0) : mx_Ok (mE X) mt lw_tbl "CountDeskLaw" false code 4 (mx_pc pc_L_law) 73 (.inl (x_ild 74 3)) := sn_ildn (k := 3) (by decide +kernel) rfl rfl
set_option maxRecDepth 100000 in
theorem sr_L_law_74 (X : mx_X0) : mx_Ok (mE X) mt lw_tbl "CountDeskLaw" false code 4 (mx_pc pc_L_law) 74 (.inl (x_ic 75 1)) := sn_ic1 (k := 1) (by decide +kernel) rfl (by decide +kernel)
set_option maxRecDepth 100000 in
theorem sr_L_law_75 (X : mx_X0) : mx_Ok (mE X) mt lw_tbl "CountDeskLaw" false code 4 (mx_pc pc_L_law) 75 (.inl (x_iadd 76)) := sn_iadd (by decide +kernel) rfl
set_option maxRecDepth 100000 in
theorem sr_L_law_76 (X : mx_X0) : mx_Ok (mE X) mt lw_tbl "CountDeskLaw" false code 4 (mx_pc pc_L_law) 76 (.inl (x_sld 77 (eSb (mE X)) (eSL (mE X)) (eSx (mE X)))) := sn_sld (by decide +kernel) rfl
set_option maxRecDepth 100000 in
theorem sr_L_law_77 (X : mx_X0) : mx_Ok (mE X) mt lw_tbl "CountDeskLaw" false code 4 (mx_pc pc_L_law) 77 (.inl (x_ald 78 0)) := sn_aldn (k := 0) (by decide +kernel) rfl rfl
set_option maxRecDepth 100000 in
theorem sr_L_law_78 (X : mx_X0) : mx_Ok (mE X) mt lw_tbl "CountDeskLaw" false code 4 (mx_pc pc_L_law) 78 (.inl (x_ild 79 3)) := sn_ildn (k := 3) (by decide +kernel) rfl rfl
set_option maxRecDepth 100000 in
theorem sr_L_law_79 (X : mx_X0) : mx_Ok (mE X) mt lw_tbl "CountDeskLaw" false code 4 (mx_pc pc_L_law) 79 (.inl (x_ic 80 2)) := sn_ic1 (k := 2) (by decide +kernel) rfl (by decide +kernel)
set_option maxRecDepth 100000 in
theorem sr_L_law_80 (X : mx_X0) : mx_Ok (mE X) mt lw_tbl "CountDeskLaw" false code 4 (mx_pc pc_L_law) 80 (.inl (x_iadd 81)) := sn_iadd (by decide +kernel) rfl
set_option maxRecDepth 100000 in
theorem sr_L_law_81 (X : mx_X0) : mx_Ok (mE X) mt lw_tbl "CountDeskLaw" false code 4 (mx_pc pc_L_law) 81 (.inl (x_sld 82 (eSb (mE X)) (eSL (mE X)) (eSx (mE X)))) := sn_sld (by decide +kernel) rfl
set_option maxRecDepth 100000 in
theorem sr_L_law_82 (X : mx_X0) : mx_Ok (mE X) mt lw_tbl "CountDeskLaw" false code 4 (mx_pc pc_L_law) 82 (.inr (.inl (41, 3, 83, 5))) := ⟨rfl, tl wm_10, ⟨by decide +kernel, by decide +kernel⟩, by decide +kernel, tl wm_340, tl wm_341, ⟨_, _, rfl⟩, 27, (Or.inl (tl wm_339)), by decide +kernel⟩
set_option maxRecDepth 100000 in
theorem sr_L_law_83 (X : mx_X0) : mx_Ok (mE X) mt lw_tbl "CountDeskLaw" false code 4 (mx_pc pc_L_law) 83 (.inl (x_ald 84 2)) := sn_aldn (k := 2) (by decide +kernel) rfl rfl
set_option maxRecDepth 100000 in
theorem sr_L_law_84 (X : mx_X0) : mx_Ok (mE X) mt lw_tbl "CountDeskLaw" false code 4 (mx_pc pc_L_law) 84 (.inl (x_ald 85 0)) := sn_aldn (k := 0) (by decide +kernel) rfl rfl
set_option maxRecDepth 100000 in
theorem sr_L_law_85 (X : mx_X0) : mx_Ok (mE X) mt lw_tbl "CountDeskLaw" false code 4 (mx_pc pc_L_law) 85 (.inl (x_ild 86 3)) := sn_ildn (k := 3) (by decide +kernel) rfl rfl
set_option maxRecDepth 100000 in
theorem sr_L_law_86 (X : mx_X0) : mx_Ok (mE X) mt lw_tbl "CountDeskLaw" false code 4 (mx_pc pc_L_law) 86 (.inl (x_ic 87 1)) := sn_ic1 (k := 1) (by decide +kernel) rfl (by decide +kernel)
set_option maxRecDepth 100000 in
theorem sr_L_law_87 (X : mx_X0) : mx_Ok (mE X) mt lw_tbl "CountDeskLaw" false code 4 (mx_pc pc_L_law) 87 (.inl (x_iadd 88)) := sn_iadd (by decide +kernel) rfl
set_option maxRecDepth 100000 in
theorem sr_L_law_88 (X : mx_X0) : mx_Ok (mE X) mt lw_tbl "CountDeskLaw" false code 4 (mx_pc pc_L_law) 88 (.inl (x_sld 89 (eSb (mE X)) (eSL (mE X)) (eSx (mE X)))) := sn_sld (by decide +kernel) rfl
set_option maxRecDepth 100000 in
theorem sr_L_law_89 (X : mx_X0) : mx_Ok (mE X) mt lw_tbl "CountDeskLaw" false code 4 (mx_pc pc_L_law) 89 (.inl (x_ald 90 0)) := sn_aldn (k := 0) (by decide +kernel) rfl rfl
set_option maxRecDepth 100000 in
theorem sr_L_law_90 (X : mx_X0) : mx_Ok (mE X) mt lw_tbl "CountDeskLaw" false code 4 (mx_pc pc_L_law) 90 (.inl (x_ild 91 3)) := sn_ildn (k := 3) (by decide +kernel) rfl rfl
set_option maxRecDepth 100000 in
theorem sr_L_law_91 (X : mx_X0) : mx_Ok (mE X) mt lw_tbl "CountDeskLaw" false code 4 (mx_pc pc_L_law) 91 (.inl (x_ic 92 2)) := sn_ic1 (k := 2) (by decide +kernel) rfl (by decide +kernel)
set_option maxRecDepth 100000 in
theorem sr_L_law_92 (X : mx_X0) : mx_Ok (mE X) mt lw_tbl "CountDeskLaw" false code 4 (mx_pc pc_L_law) 92 (.inl (x_iadd 93)) := sn_iadd (by decide +kernel) rfl
set_option maxRecDepth 100000 in
theorem sr_L_law_93 (X : mx_X0) : mx_Ok (mE X) mt lw_tbl "CountDeskLaw" false code 4 (mx_pc pc_L_law) 93 (.inl (x_sld 94 (eSb (mE X)) (eSL (mE X)) (eSx (mE X)))) := sn_sld (by decide +kernel) rfl
set_option maxRecDepth 100000 in
theorem sr_L_law_94 (X : mx_X0) : mx_Ok (mE X) mt lw_tbl "CountDeskLaw" false code 4 (mx_pc pc_L_law) 94 (.inr (.inl (61, 3, 95, 6))) := ⟨rfl, tl wm_225, ⟨by decide +kernel, by decide +kernel⟩, by decide +kernel, tl wm_343, tl wm_344, ⟨_, _, rfl⟩, 30, (Or.inl (tl wm_342)), by decide +kernel⟩
set_option maxRecDepth 100000 in
theorem sr_L_law_95 (X : mx_X0) : mx_Ok (mE X) mt lw_tbl "CountDeskLaw" false code 4 (mx_pc pc_L_law) 95 (.inl (x_ceq 96 250)) := sn_ceq (tg := 376) (off := 193) (by decide +kernel) rfl rfl (by decide +kernel)
set_option maxRecDepth 100000 in
theorem sr_L_law_96 (X : mx_X0) : mx_Ok (mE X) mt lw_tbl "CountDeskLaw" false code 4 (mx_pc pc_L_law) 96 (.inl (x_ic 97 0)) := sn_ic1 (k := 0) (by decide +kernel) rfl (by decide +kernel)
set_option maxRecDepth 100000 in
theorem sr_L_law_97 (X : mx_X0) : mx_Ok (mE X) mt lw_tbl "CountDeskLaw" false code 4 (mx_pc pc_L_law) 97 (.inr (.inr 3)) := trivial
set_option maxRecDepth 100000 in
theorem sr_L_law_98 (X : mx_X0) : mx_Ok (mE X) mt lw_tbl "CountDeskLaw" false code 4 (mx_pc pc_L_law) 98 (.inl (x_ald 99 1)) := sn_aldn (k := 1) (by decide +kernel) rfl rfl
set_option maxRecDepth 100000 in
theorem sr_L_law_99 (X : mx_X0) : mx_Ok (mE X) mt lw_tbl "CountDeskLaw" false code 4 (mx_pc pc_L_law) 99 (.inl (x_ald 100 0)) := sn_aldn (k := 0) (by decide +kernel) rfl rfl
set_option maxRecDepth 100000 in
theorem sr_L_law_100 (X : mx_X0) : mx_Ok (mE X) mt lw_tbl "CountDeskLaw" false code 4 (mx_pc pc_L_law) 100 (.inl (x_ild 101 3)) := sn_ildn (k := 3) (by decide +kernel) rfl rfl
set_option maxRecDepth 100000 in
theorem sr_L_law_101 (X : mx_X0) : mx_Ok (mE X) mt lw_tbl "CountDeskLaw" false code 4 (mx_pc pc_L_law) 101 (.inl (x_ic 102 1)) := sn_ic1 (k := 1) (by decide +kernel) rfl (by decide +kernel)
set_option maxRecDepth 100000 in
theorem sr_L_law_102 (X : mx_X0) : mx_Ok (mE X) mt lw_tbl "CountDeskLaw" false code 4 (mx_pc pc_L_law) 102 (.inl (x_iadd 103)) := sn_iadd (by decide +kernel) rfl
set_option maxRecDepth 100000 in
theorem sr_L_law_103 (X : mx_X0) : mx_Ok (mE X) mt lw_tbl "CountDeskLaw" false code 4 (mx_pc pc_L_law) 103 (.inl (x_sld 104 (eSb (mE X)) (eSL (mE X)) (eSx (mE X)))) := sn_sld (by decide +kernel) rfl
set_option maxRecDepth 100000 in
theorem sr_L_law_104 (X : mx_X0) : mx_Ok (mE X) mt lw_tbl "CountDeskLaw" false code 4 (mx_pc pc_L_law) 104 (.inl (x_ald 105 0)) := sn_aldn (k := 0) (by decide +kernel) rfl rfl
set_option maxRecDepth 100000 in
theorem sr_L_law_105 (X : mx_X0) : mx_Ok (mE X) mt lw_tbl "CountDeskLaw" false code 4 (mx_pc pc_L_law) 105 (.inl (x_ild 106 3)) := sn_ildn (k := 3) (by decide +kernel) rfl rfl
set_option maxRecDepth 100000 in
theorem sr_L_law_106 (X : mx_X0) : mx_Ok (mE X) mt lw_tbl "CountDeskLaw" false code 4 (mx_pc pc_L_law) 106 (.inl (x_ic 107 2)) := sn_ic1 (k := 2) (by decide +kernel) rfl (by decide +kernel)
set_option maxRecDepth 100000 in
theorem sr_L_law_107 (X : mx_X0) : mx_Ok (mE X) mt lw_tbl "CountDeskLaw" false code 4 (mx_pc pc_L_law) 107 (.inl (x_iadd 108)) := sn_iadd (by decide +kernel) rfl
set_option maxRecDepth 100000 in
theorem sr_L_law_108 (X : mx_X0) : mx_Ok (mE X) mt lw_tbl "CountDeskLaw" false code 4 (mx_pc pc_L_law) 108 (.inl (x_sld 109 (eSb (mE X)) (eSL (mE X)) (eSx (mE X)))) := sn_sld (by decide +kernel) rfl
set_option maxRecDepth 100000 in
theorem sr_L_law_109 (X : mx_X0) : mx_Ok (mE X) mt lw_tbl "CountDeskLaw" false code 4 (mx_pc pc_L_law) 109 (.inl (x_ald 110 0)) := sn_aldn (k := 0) (by decide +kernel) rfl rfl
set_option maxRecDepth 100000 in
theorem sr_L_law_110 (X : mx_X0) : mx_Ok (mE X) mt lw_tbl "CountDeskLaw" false code 4 (mx_pc pc_L_law) 110 (.inl (x_ild 111 3)) := sn_ildn (k := 3) (by decide +kernel) rfl rfl
set_option maxRecDepth 100000 in
theorem sr_L_law_111 (X : mx_X0) : mx_Ok (mE X) mt lw_tbl "CountDeskLaw" false code 4 (mx_pc pc_L_law) 111 (.inl (x_ic 112 3)) := sn_ic1 (k := 3) (by decide +kernel) rfl (by decide +kernel)
set_option maxRecDepth 100000 in
theorem sr_L_law_112 (X : mx_X0) : mx_Ok (mE X) mt lw_tbl "CountDeskLaw" false code 4 (mx_pc pc_L_law) 112 (.inl (x_iadd 113)) := sn_iadd (by decide +kernel) rfl
set_option maxRecDepth 100000 in
theorem sr_L_law_113 (X : mx_X0) : mx_Ok (mE X) mt lw_tbl "CountDeskLaw" false code 4 (mx_pc pc_L_law) 113 (.inl (x_sld 114 (eSb (mE X)) (eSL (mE X)) (eSx (mE X)))) := sn_sld (by decide +kernel) rfl
set_option maxRecDepth 100000 in
theorem sr_L_law_114 (X : mx_X0) : mx_Ok (mE X) mt lw_tbl "CountDeskLaw" false code 4 (mx_pc pc_L_law) 114 (.inl (x_ald 115 0)) := sn_aldn (k := 0) (by decide +kernel) rfl rfl
set_option maxRecDepth 100000 in
theorem sr_L_law_115 (X : mx_X0) : mx_Ok (mE X) mt lw_tbl "CountDeskLaw" false code 4 (mx_pc pc_L_law) 115 (.inl (x_ild 116 3)) := sn_ildn (k := 3) (by decide +kernel) rfl rfl
set_option maxRecDepth 100000 in
theorem sr_L_law_116 (X : mx_X0) : mx_Ok (mE X) mt lw_tbl "CountDeskLaw" false code 4 (mx_pc pc_L_law) 116 (.inl (x_ic 117 4)) := sn_ic1 (k := 4) (by decide +kernel) rfl (by decide +kernel)
set_option maxRecDepth 100000 in
theorem sr_L_law_117 (X : mx_X0) : mx_Ok (mE X) mt lw_tbl "CountDeskLaw" false code 4 (mx_pc pc_L_law) 117 (.inl (x_iadd 118)) := sn_iadd (by decide +kernel) rfl
set_option maxRecDepth 100000 in
theorem sr_L_law_118 (X : mx_X0) : mx_Ok (mE X) mt lw_tbl "CountDeskLaw" false code 4 (mx_pc pc_L_law) 118 (.inl (x_sld 119 (eSb (mE X)) (eSL (mE X)) (eSx (mE X)))) := sn_sld (by decide +kernel) rfl
set_option maxRecDepth 100000 in
theorem sr_L_law_119 (X : mx_X0) : mx_Ok (mE X) mt lw_tbl "CountDeskLaw" false code 4 (mx_pc pc_L_law) 119 (.inr (.inl (42, 5, 120, 5))) := ⟨rfl, tl wm_10, ⟨by decide +kernel, by decide +kernel⟩, by decide +kernel, tl wm_346, tl wm_347, ⟨_, _, rfl⟩, 31, (Or.inl (tl wm_345)), by decide +kernel⟩
set_option maxRecDepth 100000 in
theorem sr_L_law_120 (X : mx_X0) : mx_Ok (mE X) mt lw_tbl "CountDeskLaw" false code 4 (mx_pc pc_L_law) 120 (.inl (x_ald 121 2)) := sn_aldn (k := 2) (by decide +kernel) rfl rfl
set_option maxRecDepth 100000 in
theorem sr_L_law_121 (X : mx_X0) : mx_Ok (mE X) mt lw_tbl "CountDeskLaw" false code 4 (mx_pc pc_L_law) 121 (.inl (x_ald 122 0)) := sn_aldn (k := 0) (by decide +kernel) rfl rfl
set_option maxRecDepth 100000 in
theorem sr_L_law_122 (X : mx_X0) : mx_Ok (mE X) mt lw_tbl "CountDeskLaw" false code 4 (mx_pc pc_L_law) 122 (.inl (x_ild 123 3)) := sn_ildn (k := 3) (by decide +kernel) rfl rfl
set_option maxRecDepth 100000 in
theorem sr_L_law_123 (X : mx_X0) : mx_Ok (mE X) mt lw_tbl "CountDeskLaw" false code 4 (mx_pc pc_L_law) 123 (.inl (x_ic 124 1)) := sn_ic1 (k := 1) (by decide +kernel) rfl (by decide +kernel)
set_option maxRecDepth 100000 in
theorem sr_L_law_124 (X : mx_X0) : mx_Ok (mE X) mt lw_tbl "CountDeskLaw" false code 4 (mx_pc pc_L_law) 124 (.inl (x_iadd 125)) := sn_iadd (by decide +kernel) rfl
set_option maxRecDepth 100000 in
theorem sr_L_law_125 (X : mx_X0) : mx_Ok (mE X) mt lw_tbl "CountDeskLaw" false code 4 (mx_pc pc_L_law) 125 (.inl (x_sld 126 (eSb (mE X)) (eSL (mE X)) (eSx (mE X)))) := sn_sld (by decide +kernel) rfl
set_option maxRecDepth 100000 in
theorem sr_L_law_126 (X : mx_X0) : mx_Ok (mE X) mt lw_tbl "CountDeskLaw" false code 4 (mx_pc pc_L_law) 126 (.inl (x_ald 127 0)) := sn_aldn (k := 0) (by decide +kernel) rfl rfl
set_option maxRecDepth 100000 in
theorem sr_L_law_127 (X : mx_X0) : mx_Ok (mE X) mt lw_tbl "CountDeskLaw" false code 4 (mx_pc pc_L_law) 127 (.inl (x_ild 128 3)) := sn_ildn (k := 3) (by decide +kernel) rfl rfl
set_option maxRecDepth 100000 in
theorem sr_L_law_128 (X : mx_X0) : mx_Ok (mE X) mt lw_tbl "CountDeskLaw" false code 4 (mx_pc pc_L_law) 128 (.inl (x_ic 129 2)) := sn_ic1 (k := 2) (by decide +kernel) rfl (by decide +kernel)
set_option maxRecDepth 100000 in
theorem sr_L_law_129 (X : mx_X0) : mx_Ok (mE X) mt lw_tbl "CountDeskLaw" false code 4 (mx_pc pc_L_law) 129 (.inl (x_iadd 130)) := sn_iadd (by decide +kernel) rfl
set_option maxRecDepth 100000 in
theorem sr_L_law_130 (X : mx_X0) : mx_Ok (mE X) mt lw_tbl "CountDeskLaw" false code 4 (mx_pc pc_L_law) 130 (.inl (x_sld 131 (eSb (mE X)) (eSL (mE X)) (eSx (mE X)))) := sn_sld (by decide +kernel) rfl
set_option maxRecDepth 100000 in
theorem sr_L_law_131 (X : mx_X0) : mx_Ok (mE X) mt lw_tbl "CountDeskLaw" false code 4 (mx_pc pc_L_law) 131 (.inl (x_ald 132 0)) := sn_aldn (k := 0) (by decide +kernel) rfl rfl
set_option maxRecDepth 100000 in
theorem sr_L_law_132 (X : mx_X0) : mx_Ok (mE X) mt lw_tbl "CountDeskLaw" false code 4 (mx_pc pc_L_law) 132 (.inl (x_ild 133 3)) := sn_ildn (k := 3) (by decide +kernel) rfl rfl
set_option maxRecDepth 100000 in
theorem sr_L_law_133 (X : mx_X0) : mx_Ok (mE X) mt lw_tbl "CountDeskLaw" false code 4 (mx_pc pc_L_law) 133 (.inl (x_ic 134 3)) := sn_ic1 (k := 3) (by decide +kernel) rfl (by decide +kernel)
set_option maxRecDepth 100000 in
theorem sr_L_law_134 (X : mx_X0) : mx_Ok (mE X) mt lw_tbl "CountDeskLaw" false code 4 (mx_pc pc_L_law) 134 (.inl (x_iadd 135)) := sn_iadd (by decide +kernel) rfl
set_option maxRecDepth 100000 in
theorem sr_L_law_135 (X : mx_X0) : mx_Ok (mE X) mt lw_tbl "CountDeskLaw" false code 4 (mx_pc pc_L_law) 135 (.inl (x_sld 136 (eSb (mE X)) (eSL (mE X)) (eSx (mE X)))) := sn_sld (by decide +kernel) rfl
set_option maxRecDepth 100000 in
theorem sr_L_law_136 (X : mx_X0) : mx_Ok (mE X) mt lw_tbl "CountDeskLaw" false code 4 (mx_pc pc_L_law) 136 (.inl (x_ald 137 0)) := sn_aldn (k := 0) (by decide +kernel) rfl rfl
set_option maxRecDepth 100000 in
theorem sr_L_law_137 (X : mx_X0) : mx_Ok (mE X) mt lw_tbl "CountDeskLaw" false code 4 (mx_pc pc_L_law) 137 (.inl (x_ild 138 3)) := sn_ildn (k := 3) (by decide +kernel) rfl rfl
set_option maxRecDepth 100000 in
theorem sr_L_law_138 (X : mx_X0) : mx_Ok (mE X) mt lw_tbl "CountDeskLaw" false code 4 (mx_pc pc_L_law) 138 (.inl (x_ic 139 4)) := sn_ic1 (k := 4) (by decide +kernel) rfl (by decide +kernel)
set_option maxRecDepth 100000 in
theorem sr_L_law_139 (X : mx_X0) : mx_Ok (mE X) mt lw_tbl "CountDeskLaw" false code 4 (mx_pc pc_L_law) 139 (.inl (x_iadd 140)) := sn_iadd (by decide +kernel) rfl
set_option maxRecDepth 100000 in
theorem sr_L_law_140 (X : mx_X0) : mx_Ok (mE X) mt lw_tbl "CountDeskLaw" false code 4 (mx_pc pc_L_law) 140 (.inl (x_sld 141 (eSb (mE X)) (eSL (mE X)) (eSx (mE X)))) := sn_sld (by decide +kernel) rfl
set_option maxRecDepth 100000 in
theorem sr_L_law_141 (X : mx_X0) : mx_Ok (mE X) mt lw_tbl "CountDeskLaw" false code 4 (mx_pc pc_L_law) 141 (.inr (.inl (62, 5, 142, 6))) := ⟨rfl, tl wm_225, ⟨by decide +kernel, by decide +kernel⟩, by decide +kernel, tl wm_349, tl wm_350, ⟨_, _, rfl⟩, 35, (Or.inl (tl wm_348)), by decide +kernel⟩
set_option maxRecDepth 100000 in
theorem sr_L_law_142 (X : mx_X0) : mx_Ok (mE X) mt lw_tbl "CountDeskLaw" false code 4 (mx_pc pc_L_law) 142 (.inl (x_ceq 143 250)) := sn_ceq (tg := 376) (off := 140) (by decide +kernel) rfl rfl (by decide +kernel)
set_option maxRecDepth 100000 in
theorem sr_L_law_143 (X : mx_X0) : mx_Ok (mE X) mt lw_tbl "CountDeskLaw" false code 4 (mx_pc pc_L_law) 143 (.inl (x_ic 144 0)) := sn_ic1 (k := 0) (by decide +kernel) rfl (by decide +kernel)
set_option maxRecDepth 100000 in
theorem sr_L_law_144 (X : mx_X0) : mx_Ok (mE X) mt lw_tbl "CountDeskLaw" false code 4 (mx_pc pc_L_law) 144 (.inr (.inr 3)) := trivial
set_option maxRecDepth 100000 in
theorem sr_L_law_145 (X : mx_X0) : mx_Ok (mE X) mt lw_tbl "CountDeskLaw" false code 4 (mx_pc pc_L_law) 145 (.inl (x_ald 146 1)) := sn_aldn (k := 1) (by decide +kernel) rfl rfl
set_option maxRecDepth 100000 in
theorem sr_L_law_146 (X : mx_X0) : mx_Ok (mE X) mt lw_tbl "CountDeskLaw" false code 4 (mx_pc pc_L_law) 146 (.inl (x_ald 147 0)) := sn_aldn (k := 0) (by decide +kernel) rfl rfl
set_option maxRecDepth 100000 in
theorem sr_L_law_147 (X : mx_X0) : mx_Ok (mE X) mt lw_tbl "CountDeskLaw" false code 4 (mx_pc pc_L_law) 147 (.inl (x_ild 148 3)) := sn_ildn (k := 3) (by decide +kernel) rfl rfl
set_option maxRecDepth 100000 in
theorem sr_L_law_148 (X : mx_X0) : mx_Ok (mE X) mt lw_tbl "CountDeskLaw" false code 4 (mx_pc pc_L_law) 148 (.inl (x_ic 149 1)) := sn_ic1 (k := 1) (by decide +kernel) rfl (by decide +kernel)
set_option maxRecDepth 100000 in
theorem sr_L_law_149 (X : mx_X0) : mx_Ok (mE X) mt lw_tbl "CountDeskLaw" false code 4 (mx_pc pc_L_law) 149 (.inl (x_iadd 150)) := sn_iadd (by decide +kernel) rfl
set_option maxRecDepth 100000 in
theorem sr_L_law_150 (X : mx_X0) : mx_Ok (mE X) mt lw_tbl "CountDeskLaw" false code 4 (mx_pc pc_L_law) 150 (.inl (x_sld 151 (eSb (mE X)) (eSL (mE X)) (eSx (mE X)))) := sn_sld (by decide +kernel) rfl
set_option maxRecDepth 100000 in
theorem sr_L_law_151 (X : mx_X0) : mx_Ok (mE X) mt lw_tbl "CountDeskLaw" false code 4 (mx_pc pc_L_law) 151 (.inr (.inl (44, 2, 152, 5))) := ⟨rfl, tl wm_10, ⟨by decide +kernel, by decide +kernel⟩, by decide +kernel, tl wm_192, tl wm_193, ⟨_, _, rfl⟩, 36, (Or.inl (tl wm_351)), by decide +kernel⟩
set_option maxRecDepth 100000 in
theorem sr_L_law_152 (X : mx_X0) : mx_Ok (mE X) mt lw_tbl "CountDeskLaw" false code 4 (mx_pc pc_L_law) 152 (.inl (x_ald 153 2)) := sn_aldn (k := 2) (by decide +kernel) rfl rfl
set_option maxRecDepth 100000 in
theorem sr_L_law_153 (X : mx_X0) : mx_Ok (mE X) mt lw_tbl "CountDeskLaw" false code 4 (mx_pc pc_L_law) 153 (.inl (x_ald 154 0)) := sn_aldn (k := 0) (by decide +kernel) rfl rfl
set_option maxRecDepth 100000 in
theorem sr_L_law_154 (X : mx_X0) : mx_Ok (mE X) mt lw_tbl "CountDeskLaw" false code 4 (mx_pc pc_L_law) 154 (.inl (x_ild 155 3)) := sn_ildn (k := 3) (by decide +kernel) rfl rfl
set_option maxRecDepth 100000 in
theorem sr_L_law_155 (X : mx_X0) : mx_Ok (mE X) mt lw_tbl "CountDeskLaw" false code 4 (mx_pc pc_L_law) 155 (.inl (x_ic 156 1)) := sn_ic1 (k := 1) (by decide +kernel) rfl (by decide +kernel)
set_option maxRecDepth 100000 in
theorem sr_L_law_156 (X : mx_X0) : mx_Ok (mE X) mt lw_tbl "CountDeskLaw" false code 4 (mx_pc pc_L_law) 156 (.inl (x_iadd 157)) := sn_iadd (by decide +kernel) rfl
set_option maxRecDepth 100000 in
theorem sr_L_law_157 (X : mx_X0) : mx_Ok (mE X) mt lw_tbl "CountDeskLaw" false code 4 (mx_pc pc_L_law) 157 (.inl (x_sld 158 (eSb (mE X)) (eSL (mE X)) (eSx (mE X)))) := sn_sld (by decide +kernel) rfl
set_option maxRecDepth 100000 in
theorem sr_L_law_158 (X : mx_X0) : mx_Ok (mE X) mt lw_tbl "CountDeskLaw" false code 4 (mx_pc pc_L_law) 158 (.inr (.inl (63, 2, 159, 6))) := ⟨rfl, tl wm_225, ⟨by decide +kernel, by decide +kernel⟩, by decide +kernel, tl wm_353, tl wm_354, ⟨_, _, rfl⟩, 40, (Or.inl (tl wm_352)), by decide +kernel⟩
set_option maxRecDepth 100000 in
theorem sr_L_law_159 (X : mx_X0) : mx_Ok (mE X) mt lw_tbl "CountDeskLaw" false code 4 (mx_pc pc_L_law) 159 (.inl (x_ceq 160 250)) := sn_ceq (tg := 376) (off := 117) (by decide +kernel) rfl rfl (by decide +kernel)
set_option maxRecDepth 100000 in
theorem sr_L_law_160 (X : mx_X0) : mx_Ok (mE X) mt lw_tbl "CountDeskLaw" false code 4 (mx_pc pc_L_law) 160 (.inl (x_ic 161 0)) := sn_ic1 (k := 0) (by decide +kernel) rfl (by decide +kernel)
set_option maxRecDepth 100000 in
theorem sr_L_law_161 (X : mx_X0) : mx_Ok (mE X) mt lw_tbl "CountDeskLaw" false code 4 (mx_pc pc_L_law) 161 (.inr (.inr 3)) := trivial
set_option maxRecDepth 100000 in
theorem sr_L_law_162 (X : mx_X0) : mx_Ok (mE X) mt lw_tbl "CountDeskLaw" false code 4 (mx_pc pc_L_law) 162 (.inl (x_ald 163 1)) := sn_aldn (k := 1) (by decide +kernel) rfl rfl
set_option maxRecDepth 100000 in
theorem sr_L_law_163 (X : mx_X0) : mx_Ok (mE X) mt lw_tbl "CountDeskLaw" false code 4 (mx_pc pc_L_law) 163 (.inl (x_ald 164 0)) := sn_aldn (k := 0) (by decide +kernel) rfl rfl
set_option maxRecDepth 100000 in
theorem sr_L_law_164 (X : mx_X0) : mx_Ok (mE X) mt lw_tbl "CountDeskLaw" false code 4 (mx_pc pc_L_law) 164 (.inl (x_ild 165 3)) := sn_ildn (k := 3) (by decide +kernel) rfl rfl
set_option maxRecDepth 100000 in
theorem sr_L_law_165 (X : mx_X0) : mx_Ok (mE X) mt lw_tbl "CountDeskLaw" false code 4 (mx_pc pc_L_law) 165 (.inl (x_ic 166 1)) := sn_ic1 (k := 1) (by decide +kernel) rfl (by decide +kernel)
set_option maxRecDepth 100000 in
theorem sr_L_law_166 (X : mx_X0) : mx_Ok (mE X) mt lw_tbl "CountDeskLaw" false code 4 (mx_pc pc_L_law) 166 (.inl (x_iadd 167)) := sn_iadd (by decide +kernel) rfl
set_option maxRecDepth 100000 in
theorem sr_L_law_167 (X : mx_X0) : mx_Ok (mE X) mt lw_tbl "CountDeskLaw" false code 4 (mx_pc pc_L_law) 167 (.inl (x_sld 168 (eSb (mE X)) (eSL (mE X)) (eSx (mE X)))) := sn_sld (by decide +kernel) rfl
set_option maxRecDepth 100000 in
theorem sr_L_law_168 (X : mx_X0) : mx_Ok (mE X) mt lw_tbl "CountDeskLaw" false code 4 (mx_pc pc_L_law) 168 (.inr (.inl (45, 2, 169, 5))) := ⟨rfl, tl wm_10, ⟨by decide +kernel, by decide +kernel⟩, by decide +kernel, tl wm_356, tl wm_357, ⟨_, _, rfl⟩, 41, (Or.inl (tl wm_355)), by decide +kernel⟩
set_option maxRecDepth 100000 in
theorem sr_L_law_169 (X : mx_X0) : mx_Ok (mE X) mt lw_tbl "CountDeskLaw" false code 4 (mx_pc pc_L_law) 169 (.inl (x_ald 170 2)) := sn_aldn (k := 2) (by decide +kernel) rfl rfl
set_option maxRecDepth 100000 in
theorem sr_L_law_170 (X : mx_X0) : mx_Ok (mE X) mt lw_tbl "CountDeskLaw" false code 4 (mx_pc pc_L_law) 170 (.inl (x_ald 171 0)) := sn_aldn (k := 0) (by decide +kernel) rfl rfl
set_option maxRecDepth 100000 in
theorem sr_L_law_171 (X : mx_X0) : mx_Ok (mE X) mt lw_tbl "CountDeskLaw" false code 4 (mx_pc pc_L_law) 171 (.inl (x_ild 172 3)) := sn_ildn (k := 3) (by decide +kernel) rfl rfl
set_option maxRecDepth 100000 in
theorem sr_L_law_172 (X : mx_X0) : mx_Ok (mE X) mt lw_tbl "CountDeskLaw" false code 4 (mx_pc pc_L_law) 172 (.inl (x_ic 173 1)) := sn_ic1 (k := 1) (by decide +kernel) rfl (by decide +kernel)
set_option maxRecDepth 100000 in
theorem sr_L_law_173 (X : mx_X0) : mx_Ok (mE X) mt lw_tbl "CountDeskLaw" false code 4 (mx_pc pc_L_law) 173 (.inl (x_iadd 174)) := sn_iadd (by decide +kernel) rfl
set_option maxRecDepth 100000 in
theorem sr_L_law_174 (X : mx_X0) : mx_Ok (mE X) mt lw_tbl "CountDeskLaw" false code 4 (mx_pc pc_L_law) 174 (.inl (x_sld 175 (eSb (mE X)) (eSL (mE X)) (eSx (mE X)))) := sn_sld (by decide +kernel) rfl
set_option maxRecDepth 100000 in
theorem sr_L_law_175 (X : mx_X0) : mx_Ok (mE X) mt lw_tbl "CountDeskLaw" false code 4 (mx_pc pc_L_law) 175 (.inr (.inl (86, 2, 176, 6))) := ⟨rfl, tl wm_225, ⟨by decide +kernel, by decide +kernel⟩, by decide +kernel, tl wm_311, tl wm_312, ⟨_, _, rfl⟩, 44, (Or.inl (tl wm_358)), by decide +kernel⟩
set_option maxRecDepth 100000 in
theorem sr_L_law_176 (X : mx_X0) : mx_Ok (mE X) mt lw_tbl "CountDeskLaw" false code 4 (mx_pc pc_L_law) 176 (.inl (x_ceq 177 250)) := sn_ceq (tg := 376) (off := 94) (by decide +kernel) rfl rfl (by decide +kernel)
set_option maxRecDepth 100000 in
theorem sr_L_law_177 (X : mx_X0) : mx_Ok (mE X) mt lw_tbl "CountDeskLaw" false code 4 (mx_pc pc_L_law) 177 (.inl (x_ic 178 0)) := sn_ic1 (k := 0) (by decide +kernel) rfl (by decide +kernel)
set_option maxRecDepth 100000 in
theorem sr_L_law_178 (X : mx_X0) : mx_Ok (mE X) mt lw_tbl "CountDeskLaw" false code 4 (mx_pc pc_L_law) 178 (.inr (.inr 3)) := trivial
set_option maxRecDepth 100000 in
theorem sr_L_law_179 (X : mx_X0) : mx_Ok (mE X) mt lw_tbl "CountDeskLaw" false code 4 (mx_pc pc_L_law) 179 (.inl (x_ald 180 1)) := sn_aldn (k := 1) (by decide +kernel) rfl rfl
set_option maxRecDepth 100000 in
theorem sr_L_law_180 (X : mx_X0) : mx_Ok (mE X) mt lw_tbl "CountDeskLaw" false code 4 (mx_pc pc_L_law) 180 (.inl (x_ald 181 0)) := sn_aldn (k := 0) (by decide +kernel) rfl rfl
set_option maxRecDepth 100000 in
theorem sr_L_law_181 (X : mx_X0) : mx_Ok (mE X) mt lw_tbl "CountDeskLaw" false code 4 (mx_pc pc_L_law) 181 (.inl (x_ild 182 3)) := sn_ildn (k := 3) (by decide +kernel) rfl rfl
set_option maxRecDepth 100000 in
theorem sr_L_law_182 (X : mx_X0) : mx_Ok (mE X) mt lw_tbl "CountDeskLaw" false code 4 (mx_pc pc_L_law) 182 (.inl (x_ic 183 1)) := sn_ic1 (k := 1) (by decide +kernel) rfl (by decide +kernel)
set_option maxRecDepth 100000 in
theorem sr_L_law_183 (X : mx_X0) : mx_Ok (mE X) mt lw_tbl "CountDeskLaw" false code 4 (mx_pc pc_L_law) 183 (.inl (x_iadd 184)) := sn_iadd (by decide +kernel) rfl
set_option maxRecDepth 100000 in
theorem sr_L_law_184 (X : mx_X0) : mx_Ok (mE X) mt lw_tbl "CountDeskLaw" false code 4 (mx_pc pc_L_law) 184 (.inl (x_sld 185 (eSb (mE X)) (eSL (mE X)) (eSx (mE X)))) := sn_sld (by decide +kernel) rfl
set_option maxRecDepth 100000 in
theorem sr_L_law_185 (X : mx_X0) : mx_Ok (mE X) mt lw_tbl "CountDeskLaw" false code 4 (mx_pc pc_L_law) 185 (.inl (x_ald 186 0)) := sn_aldn (k := 0) (by decide +kernel) rfl rfl
set_option maxRecDepth 100000 in
theorem sr_L_law_186 (X : mx_X0) : mx_Ok (mE X) mt lw_tbl "CountDeskLaw" false code 4 (mx_pc pc_L_law) 186 (.inl (x_ild 187 3)) := sn_ildn (k := 3) (by decide +kernel) rfl rfl
set_option maxRecDepth 100000 in
theorem sr_L_law_187 (X : mx_X0) : mx_Ok (mE X) mt lw_tbl "CountDeskLaw" false code 4 (mx_pc pc_L_law) 187 (.inl (x_ic 188 2)) := sn_ic1 (k := 2) (by decide +kernel) rfl (by decide +kernel)
set_option maxRecDepth 100000 in
theorem sr_L_law_188 (X : mx_X0) : mx_Ok (mE X) mt lw_tbl "CountDeskLaw" false code 4 (mx_pc pc_L_law) 188 (.inl (x_iadd 189)) := sn_iadd (by decide +kernel) rfl
set_option maxRecDepth 100000 in
theorem sr_L_law_189 (X : mx_X0) : mx_Ok (mE X) mt lw_tbl "CountDeskLaw" false code 4 (mx_pc pc_L_law) 189 (.inl (x_sld 190 (eSb (mE X)) (eSL (mE X)) (eSx (mE X)))) := sn_sld (by decide +kernel) rfl
set_option maxRecDepth 100000 in
theorem sr_L_law_190 (X : mx_X0) : mx_Ok (mE X) mt lw_tbl "CountDeskLaw" false code 4 (mx_pc pc_L_law) 190 (.inr (.inl (47, 3, 191, 5))) := ⟨rfl, tl wm_10, ⟨by decide +kernel, by decide +kernel⟩, by decide +kernel, tl wm_360, tl wm_361, ⟨_, _, rfl⟩, 45, (Or.inl (tl wm_359)), by decide +kernel⟩
set_option maxRecDepth 100000 in
theorem sr_L_law_191 (X : mx_X0) : mx_Ok (mE X) mt lw_tbl "CountDeskLaw" false code 4 (mx_pc pc_L_law) 191 (.inl (x_ald 192 2)) := sn_aldn (k := 2) (by decide +kernel) rfl rfl
set_option maxRecDepth 100000 in
theorem sr_L_law_192 (X : mx_X0) : mx_Ok (mE X) mt lw_tbl "CountDeskLaw" false code 4 (mx_pc pc_L_law) 192 (.inl (x_ald 193 0)) := sn_aldn (k := 0) (by decide +kernel) rfl rfl
set_option maxRecDepth 100000 in
theorem sr_L_law_193 (X : mx_X0) : mx_Ok (mE X) mt lw_tbl "CountDeskLaw" false code 4 (mx_pc pc_L_law) 193 (.inl (x_ild 194 3)) := sn_ildn (k := 3) (by decide +kernel) rfl rfl
set_option maxRecDepth 100000 in
theorem sr_L_law_194 (X : mx_X0) : mx_Ok (mE X) mt lw_tbl "CountDeskLaw" false code 4 (mx_pc pc_L_law) 194 (.inl (x_ic 195 1)) := sn_ic1 (k := 1) (by decide +kernel) rfl (by decide +kernel)
set_option maxRecDepth 100000 in
theorem sr_L_law_195 (X : mx_X0) : mx_Ok (mE X) mt lw_tbl "CountDeskLaw" false code 4 (mx_pc pc_L_law) 195 (.inl (x_iadd 196)) := sn_iadd (by decide +kernel) rfl
set_option maxRecDepth 100000 in
theorem sr_L_law_196 (X : mx_X0) : mx_Ok (mE X) mt lw_tbl "CountDeskLaw" false code 4 (mx_pc pc_L_law) 196 (.inl (x_sld 197 (eSb (mE X)) (eSL (mE X)) (eSx (mE X)))) := sn_sld (by decide +kernel) rfl
set_option maxRecDepth 100000 in
theorem sr_L_law_197 (X : mx_X0) : mx_Ok (mE X) mt lw_tbl "CountDeskLaw" false code 4 (mx_pc pc_L_law) 197 (.inl (x_ald 198 0)) := sn_aldn (k := 0) (by decide +kernel) rfl rfl
set_option maxRecDepth 100000 in
theorem sr_L_law_198 (X : mx_X0) : mx_Ok (mE X) mt lw_tbl "CountDeskLaw" false code 4 (mx_pc pc_L_law) 198 (.inl (x_ild 199 3)) := sn_ildn (k := 3) (by decide +kernel) rfl rfl
set_option maxRecDepth 100000 in
theorem sr_L_law_199 (X : mx_X0) : mx_Ok (mE X) mt lw_tbl "CountDeskLaw" false code 4 (mx_pc pc_L_law) 199 (.inl (x_ic 200 2)) := sn_ic1 (k := 2) (by decide +kernel) rfl (by decide +kernel)
set_option maxRecDepth 100000 in
theorem sr_L_law_200 (X : mx_X0) : mx_Ok (mE X) mt lw_tbl "CountDeskLaw" false code 4 (mx_pc pc_L_law) 200 (.inl (x_iadd 201)) := sn_iadd (by decide +kernel) rfl
set_option maxRecDepth 100000 in
theorem sr_L_law_201 (X : mx_X0) : mx_Ok (mE X) mt lw_tbl "CountDeskLaw" false code 4 (mx_pc pc_L_law) 201 (.inl (x_sld 202 (eSb (mE X)) (eSL (mE X)) (eSx (mE X)))) := sn_sld (by decide +kernel) rfl
set_option maxRecDepth 100000 in
theorem sr_L_law_202 (X : mx_X0) : mx_Ok (mE X) mt lw_tbl "CountDeskLaw" false code 4 (mx_pc pc_L_law) 202 (.inr (.inl (87, 3, 203, 6))) := ⟨rfl, tl wm_225, ⟨by decide +kernel, by decide +kernel⟩, by decide +kernel, tl wm_363, tl wm_364, ⟨_, _, rfl⟩, 48, (Or.inl (tl wm_362)), by decide +kernel⟩
set_option maxRecDepth 100000 in
theorem sr_L_law_203 (X : mx_X0) : mx_Ok (mE X) mt lw_tbl "CountDeskLaw" false code 4 (mx_pc pc_L_law) 203 (.inl (x_ceq 204 250)) := sn_ceq (tg := 376) (off := 61) (by decide +kernel) rfl rfl (by decide +kernel)
set_option maxRecDepth 100000 in
theorem sr_L_law_204 (X : mx_X0) : mx_Ok (mE X) mt lw_tbl "CountDeskLaw" false code 4 (mx_pc pc_L_law) 204 (.inl (x_ic 205 0)) := sn_ic1 (k := 0) (by decide +kernel) rfl (by decide +kernel)
set_option maxRecDepth 100000 in
theorem sr_L_law_205 (X : mx_X0) : mx_Ok (mE X) mt lw_tbl "CountDeskLaw" false code 4 (mx_pc pc_L_law) 205 (.inr (.inr 3)) := trivial
set_option maxRecDepth 100000 in
theorem sr_L_law_206 (X : mx_X0) : mx_Ok (mE X) mt lw_tbl "CountDeskLaw" false code 4 (mx_pc pc_L_law) 206 (.inl (x_ald 207 1)) := sn_aldn (k := 1) (by decide +kernel) rfl rfl
set_option maxRecDepth 100000 in
theorem sr_L_law_207 (X : mx_X0) : mx_Ok (mE X) mt lw_tbl "CountDeskLaw" false code 4 (mx_pc pc_L_law) 207 (.inl (x_ald 208 0)) := sn_aldn (k := 0) (by decide +kernel) rfl rfl
set_option maxRecDepth 100000 in
theorem sr_L_law_208 (X : mx_X0) : mx_Ok (mE X) mt lw_tbl "CountDeskLaw" false code 4 (mx_pc pc_L_law) 208 (.inl (x_ild 209 3)) := sn_ildn (k := 3) (by decide +kernel) rfl rfl
set_option maxRecDepth 100000 in
theorem sr_L_law_209 (X : mx_X0) : mx_Ok (mE X) mt lw_tbl "CountDeskLaw" false code 4 (mx_pc pc_L_law) 209 (.inl (x_ic 210 1)) := sn_ic1 (k := 1) (by decide +kernel) rfl (by decide +kernel)
set_option maxRecDepth 100000 in
theorem sr_L_law_210 (X : mx_X0) : mx_Ok (mE X) mt lw_tbl "CountDeskLaw" false code 4 (mx_pc pc_L_law) 210 (.inl (x_iadd 211)) := sn_iadd (by decide +kernel) rfl
set_option maxRecDepth 100000 in
theorem sr_L_law_211 (X : mx_X0) : mx_Ok (mE X) mt lw_tbl "CountDeskLaw" false code 4 (mx_pc pc_L_law) 211 (.inl (x_sld 212 (eSb (mE X)) (eSL (mE X)) (eSx (mE X)))) := sn_sld (by decide +kernel) rfl
set_option maxRecDepth 100000 in
theorem sr_L_law_212 (X : mx_X0) : mx_Ok (mE X) mt lw_tbl "CountDeskLaw" false code 4 (mx_pc pc_L_law) 212 (.inr (.inl (49, 2, 213, 5))) := ⟨rfl, tl wm_10, ⟨by decide +kernel, by decide +kernel⟩, by decide +kernel, tl wm_366, tl wm_367, ⟨_, _, rfl⟩, 49, (Or.inl (tl wm_365)), by decide +kernel⟩
set_option maxRecDepth 100000 in
theorem sr_L_law_213 (X : mx_X0) : mx_Ok (mE X) mt lw_tbl "CountDeskLaw" false code 4 (mx_pc pc_L_law) 213 (.inl (x_ald 214 2)) := sn_aldn (k := 2) (by decide +kernel) rfl rfl
set_option maxRecDepth 100000 in
theorem sr_L_law_214 (X : mx_X0) : mx_Ok (mE X) mt lw_tbl "CountDeskLaw" false code 4 (mx_pc pc_L_law) 214 (.inl (x_ald 215 0)) := sn_aldn (k := 0) (by decide +kernel) rfl rfl
set_option maxRecDepth 100000 in
theorem sr_L_law_215 (X : mx_X0) : mx_Ok (mE X) mt lw_tbl "CountDeskLaw" false code 4 (mx_pc pc_L_law) 215 (.inl (x_ild 216 3)) := sn_ildn (k := 3) (by decide +kernel) rfl rfl
set_option maxRecDepth 100000 in
theorem sr_L_law_216 (X : mx_X0) : mx_Ok (mE X) mt lw_tbl "CountDeskLaw" false code 4 (mx_pc pc_L_law) 216 (.inl (x_ic 217 1)) := sn_ic1 (k := 1) (by decide +kernel) rfl (by decide +kernel)
set_option maxRecDepth 100000 in
theorem sr_L_law_217 (X : mx_X0) : mx_Ok (mE X) mt lw_tbl "CountDeskLaw" false code 4 (mx_pc pc_L_law) 217 (.inl (x_iadd 218)) := sn_iadd (by decide +kernel) rfl
set_option maxRecDepth 100000 in
theorem sr_L_law_218 (X : mx_X0) : mx_Ok (mE X) mt lw_tbl "CountDeskLaw" false code 4 (mx_pc pc_L_law) 218 (.inl (x_sld 219 (eSb (mE X)) (eSL (mE X)) (eSx (mE X)))) := sn_sld (by decide +kernel) rfl
set_option maxRecDepth 100000 in
theorem sr_L_law_219 (X : mx_X0) : mx_Ok (mE X) mt lw_tbl "CountDeskLaw" false code 4 (mx_pc pc_L_law) 219 (.inr (.inl (88, 2, 220, 6))) := ⟨rfl, tl wm_225, ⟨by decide +kernel, by decide +kernel⟩, by decide +kernel, tl wm_369, tl wm_370, ⟨_, _, rfl⟩, 52, (Or.inl (tl wm_368)), by decide +kernel⟩
set_option maxRecDepth 100000 in
theorem sr_L_law_220 (X : mx_X0) : mx_Ok (mE X) mt lw_tbl "CountDeskLaw" false code 4 (mx_pc pc_L_law) 220 (.inl (x_ceq 221 250)) := sn_ceq (tg := 376) (off := 38) (by decide +kernel) rfl rfl (by decide +kernel)
set_option maxRecDepth 100000 in
theorem sr_L_law_221 (X : mx_X0) : mx_Ok (mE X) mt lw_tbl "CountDeskLaw" false code 4 (mx_pc pc_L_law) 221 (.inl (x_ic 222 0)) := sn_ic1 (k := 0) (by decide +kernel) rfl (by decide +kernel)
set_option maxRecDepth 100000 in
theorem sr_L_law_222 (X : mx_X0) : mx_Ok (mE X) mt lw_tbl "CountDeskLaw" false code 4 (mx_pc pc_L_law) 222 (.inr (.inr 3)) := trivial
set_option maxRecDepth 100000 in
theorem sr_L_law_223 (X : mx_X0) : mx_Ok (mE X) mt lw_tbl "CountDeskLaw" false code 4 (mx_pc pc_L_law) 223 (.inl (x_ald 224 1)) := sn_aldn (k := 1) (by decide +kernel) rfl rfl
set_option maxRecDepth 100000 in
theorem sr_L_law_224 (X : mx_X0) : mx_Ok (mE X) mt lw_tbl "CountDeskLaw" false code 4 (mx_pc pc_L_law) 224 (.inl (x_ald 225 0)) := sn_aldn (k := 0) (by decide +kernel) rfl rfl
set_option maxRecDepth 100000 in
theorem sr_L_law_225 (X : mx_X0) : mx_Ok (mE X) mt lw_tbl "CountDeskLaw" false code 4 (mx_pc pc_L_law) 225 (.inl (x_ild 226 3)) := sn_ildn (k := 3) (by decide +kernel) rfl rfl
set_option maxRecDepth 100000 in
theorem sr_L_law_226 (X : mx_X0) : mx_Ok (mE X) mt lw_tbl "CountDeskLaw" false code 4 (mx_pc pc_L_law) 226 (.inl (x_ic 227 1)) := sn_ic1 (k := 1) (by decide +kernel) rfl (by decide +kernel)
set_option maxRecDepth 100000 in
theorem sr_L_law_227 (X : mx_X0) : mx_Ok (mE X) mt lw_tbl "CountDeskLaw" false code 4 (mx_pc pc_L_law) 227 (.inl (x_iadd 228)) := sn_iadd (by decide +kernel) rfl
set_option maxRecDepth 100000 in
theorem sr_L_law_228 (X : mx_X0) : mx_Ok (mE X) mt lw_tbl "CountDeskLaw" false code 4 (mx_pc pc_L_law) 228 (.inl (x_sld 229 (eSb (mE X)) (eSL (mE X)) (eSx (mE X)))) := sn_sld (by decide +kernel) rfl
set_option maxRecDepth 100000 in
theorem sr_L_law_229 (X : mx_X0) : mx_Ok (mE X) mt lw_tbl "CountDeskLaw" false code 4 (mx_pc pc_L_law) 229 (.inl (x_ald 230 0)) := sn_aldn (k := 0) (by decide +kernel) rfl rfl
set_option maxRecDepth 100000 in
theorem sr_L_law_230 (X : mx_X0) : mx_Ok (mE X) mt lw_tbl "CountDeskLaw" false code 4 (mx_pc pc_L_law) 230 (.inl (x_ild 231 3)) := sn_ildn (k := 3) (by decide +kernel) rfl rfl
set_option maxRecDepth 100000 in
theorem sr_L_law_231 (X : mx_X0) : mx_Ok (mE X) mt lw_tbl "CountDeskLaw" false code 4 (mx_pc pc_L_law) 231 (.inl (x_ic 232 2)) := sn_ic1 (k := 2) (by decide +kernel) rfl (by decide +kernel)
set_option maxRecDepth 100000 in
theorem sr_L_law_232 (X : mx_X0) : mx_Ok (mE X) mt lw_tbl "CountDeskLaw" false code 4 (mx_pc pc_L_law) 232 (.inl (x_iadd 233)) := sn_iadd (by decide +kernel) rfl
set_option maxRecDepth 100000 in
theorem sr_L_law_233 (X : mx_X0) : mx_Ok (mE X) mt lw_tbl "CountDeskLaw" false code 4 (mx_pc pc_L_law) 233 (.inl (x_sld 234 (eSb (mE X)) (eSL (mE X)) (eSx (mE X)))) := sn_sld (by decide +kernel) rfl
set_option maxRecDepth 100000 in
theorem sr_L_law_234 (X : mx_X0) : mx_Ok (mE X) mt lw_tbl "CountDeskLaw" false code 4 (mx_pc pc_L_law) 234 (.inr (.inl (50, 3, 235, 5))) := ⟨rfl, tl wm_10, ⟨by decide +kernel, by decide +kernel⟩, by decide +kernel, tl wm_372, tl wm_373, ⟨_, _, rfl⟩, 53, (Or.inl (tl wm_371)), by decide +kernel⟩
set_option maxRecDepth 100000 in
theorem sr_L_law_235 (X : mx_X0) : mx_Ok (mE X) mt lw_tbl "CountDeskLaw" false code 4 (mx_pc pc_L_law) 235 (.inl (x_ald 236 2)) := sn_aldn (k := 2) (by decide +kernel) rfl rfl
set_option maxRecDepth 100000 in
theorem sr_L_law_236 (X : mx_X0) : mx_Ok (mE X) mt lw_tbl "CountDeskLaw" false code 4 (mx_pc pc_L_law) 236 (.inl (x_ald 237 0)) := sn_aldn (k := 0) (by decide +kernel) rfl rfl
set_option maxRecDepth 100000 in
theorem sr_L_law_237 (X : mx_X0) : mx_Ok (mE X) mt lw_tbl "CountDeskLaw" false code 4 (mx_pc pc_L_law) 237 (.inl (x_ild 238 3)) := sn_ildn (k := 3) (by decide +kernel) rfl rfl
set_option maxRecDepth 100000 in
theorem sr_L_law_238 (X : mx_X0) : mx_Ok (mE X) mt lw_tbl "CountDeskLaw" false code 4 (mx_pc pc_L_law) 238 (.inl (x_ic 239 1)) := sn_ic1 (k := 1) (by decide +kernel) rfl (by decide +kernel)
set_option maxRecDepth 100000 in
theorem sr_L_law_239 (X : mx_X0) : mx_Ok (mE X) mt lw_tbl "CountDeskLaw" false code 4 (mx_pc pc_L_law) 239 (.inl (x_iadd 240)) := sn_iadd (by decide +kernel) rfl
set_option maxRecDepth 100000 in
theorem sr_L_law_240 (X : mx_X0) : mx_Ok (mE X) mt lw_tbl "CountDeskLaw" false code 4 (mx_pc pc_L_law) 240 (.inl (x_sld 241 (eSb (mE X)) (eSL (mE X)) (eSx (mE X)))) := sn_sld (by decide +kernel) rfl
set_option maxRecDepth 100000 in
theorem sr_L_law_241 (X : mx_X0) : mx_Ok (mE X) mt lw_tbl "CountDeskLaw" false code 4 (mx_pc pc_L_law) 241 (.inl (x_ald 242 0)) := sn_aldn (k := 0) (by decide +kernel) rfl rfl
set_option maxRecDepth 100000 in
theorem sr_L_law_242 (X : mx_X0) : mx_Ok (mE X) mt lw_tbl "CountDeskLaw" false code 4 (mx_pc pc_L_law) 242 (.inl (x_ild 243 3)) := sn_ildn (k := 3) (by decide +kernel) rfl rfl
set_option maxRecDepth 100000 in
theorem sr_L_law_243 (X : mx_X0) : mx_Ok (mE X) mt lw_tbl "CountDeskLaw" false code 4 (mx_pc pc_L_law) 243 (.inl (x_ic 244 2)) := sn_ic1 (k := 2) (by decide +kernel) rfl (by decide +kernel)
set_option maxRecDepth 100000 in
theorem sr_L_law_244 (X : mx_X0) : mx_Ok (mE X) mt lw_tbl "CountDeskLaw" false code 4 (mx_pc pc_L_law) 244 (.inl (x_iadd 245)) := sn_iadd (by decide +kernel) rfl
set_option maxRecDepth 100000 in
theorem sr_L_law_245 (X : mx_X0) : mx_Ok (mE X) mt lw_tbl "CountDeskLaw" false code 4 (mx_pc pc_L_law) 245 (.inl (x_sld 246 (eSb (mE X)) (eSL (mE X)) (eSx (mE X)))) := sn_sld (by decide +kernel) rfl
set_option maxRecDepth 100000 in
theorem sr_L_law_246 (X : mx_X0) : mx_Ok (mE X) mt lw_tbl "CountDeskLaw" false code 4 (mx_pc pc_L_law) 246 (.inr (.inl (89, 3, 247, 6))) := ⟨rfl, tl wm_225, ⟨by decide +kernel, by decide +kernel⟩, by decide +kernel, tl wm_375, tl wm_376, ⟨_, _, rfl⟩, 56, (Or.inl (tl wm_374)), by decide +kernel⟩
set_option maxRecDepth 100000 in
theorem sr_L_law_247 (X : mx_X0) : mx_Ok (mE X) mt lw_tbl "CountDeskLaw" false code 4 (mx_pc pc_L_law) 247 (.inl (x_ceq 248 250)) := sn_ceq (tg := 376) (off := 5) (by decide +kernel) rfl rfl (by decide +kernel)
set_option maxRecDepth 100000 in
theorem sr_L_law_248 (X : mx_X0) : mx_Ok (mE X) mt lw_tbl "CountDeskLaw" false code 4 (mx_pc pc_L_law) 248 (.inl (x_ic 249 0)) := sn_ic1 (k := 0) (by decide +kernel) rfl (by decide +kernel)
set_option maxRecDepth 100000 in
theorem sr_L_law_249 (X : mx_X0) : mx_Ok (mE X) mt lw_tbl "CountDeskLaw" false code 4 (mx_pc pc_L_law) 249 (.inr (.inr 3)) := trivial
set_option maxRecDepth 100000 in
theorem sr_L_law_250 (X : mx_X0) : mx_Ok (mE X) mt lw_tbl "CountDeskLaw" false code 4 (mx_pc pc_L_law) 250 (.inl (x_inc 251 3 5)) := sn_inc (k := 5) (by decide +kernel) rfl (by decide +kernel)
set_option maxRecDepth 100000 in
theorem sr_L_law_251 (X : mx_X0) : mx_Ok (mE X) mt lw_tbl "CountDeskLaw" false code 4 (mx_pc pc_L_law) 251 (.inl (x_goto 10)) := sn_goto (tg := 18) (off := -361) (by decide +kernel) rfl (by decide +kernel)
set_option maxRecDepth 100000 in
theorem sr_L_law_252 (X : mx_X0) : mx_Ok (mE X) mt lw_tbl "CountDeskLaw" false code 4 (mx_pc pc_L_law) 252 (.inl (x_ic 253 1)) := sn_ic1 (k := 1) (by decide +kernel) rfl (by decide +kernel)
set_option maxRecDepth 100000 in
theorem sr_L_law_253 (X : mx_X0) : mx_Ok (mE X) mt lw_tbl "CountDeskLaw" false code 4 (mx_pc pc_L_law) 253 (.inr (.inr 3)) := trivial
set_option maxRecDepth 100000 in
theorem ok_L_law (X : mx_X0) : ∀ i, mx_Ok (mE X) mt lw_tbl "CountDeskLaw" false code 4 (mx_pc pc_L_law) i (mx_nth (cd_L_law X) i) := mx_okl_all (P := mx_Ok (mE X) mt lw_tbl "CountDeskLaw" false code 4 (mx_pc pc_L_law)) (fun _ => sn_stop) (⟨sr_L_law_0 X, ⟨sr_L_law_1 X, ⟨sr_L_law_2 X, ⟨sr_L_law_3 X, ⟨sr_L_law_4 X, ⟨sr_L_law_5 X, ⟨sr_L_law_6 X, ⟨sr_L_law_7 X, ⟨sr_L_law_8 X, ⟨sr_L_law_9 X, ⟨sr_L_law_10 X, ⟨sr_L_law_11 X, ⟨sr_L_law_12 X, ⟨sr_L_law_13 X, ⟨sr_L_law_14 X, ⟨sr_L_law_15 X, ⟨sr_L_law_16 X, ⟨sr_L_law_17 X, ⟨sr_L_law_18 X, ⟨sr_L_law_19 X, ⟨sr_L_law_20 X, ⟨sr_L_law_21 X, ⟨sr_L_law_22 X, ⟨sr_L_law_23 X, ⟨sr_L_law_24 X, ⟨sr_L_law_25 X, ⟨sr_L_law_26 X, ⟨sr_L_law_27 X, ⟨sr_L_law_28 X, ⟨sr_L_law_29 X, ⟨sr_L_law_30 X, ⟨sr_L_law_31 X, ⟨sr_L_law_32 X, ⟨sr_L_law_33 X, ⟨sr_L_law_34 X, ⟨sr_L_law_35 X, ⟨sr_L_law_36 X, ⟨sr_L_law_37 X, ⟨sr_L_law_38 X, ⟨sr_L_law_39 X, ⟨sr_L_law_40 X, ⟨sr_L_law_41 X, ⟨sr_L_law_42 X, ⟨sr_L_law_43 X, ⟨sr_L_law_44 X, ⟨sr_L_law_45 X, ⟨sr_L_law_46 X, ⟨sr_L_law_47 X, ⟨sr_L_law_48 X, ⟨sr_L_law_49 X, ⟨sr_L_law_50 X, ⟨sr_L_law_51 X, ⟨sr_L_law_52 X, ⟨sr_L_law_53 X, ⟨sr_L_law_54 X, ⟨sr_L_law_55 X, ⟨sr_L_law_56 X, ⟨sr_L_law_57 X, ⟨sr_L_law_58 X, ⟨sr_L_law_59 X, ⟨sr_L_law_60 X, ⟨sr_L_law_61 X, ⟨sr_L_law_62 X, ⟨sr_L_law_63 X, ⟨sr_L_law_64 X, ⟨sr_L_law_65 X, ⟨sr_L_law_66 X, ⟨sr_L_law_67 X, ⟨sr_L_law_68 X, ⟨sr_L_law_69 X, ⟨sr_L_law_70 X, ⟨sr_L_law_71 X, ⟨sr_L_law_72 X, ⟨sr_L_law_73 X, ⟨sr_L_law_74 X, ⟨sr_L_law_75 X, ⟨sr_L_law_76 X, ⟨sr_L_law_77 X, ⟨sr_L_law_78 X, ⟨sr_L_law_79 X, ⟨sr_L_law_80 X, ⟨sr_L_law_81 X, ⟨sr_L_law_82 X, ⟨sr_L_law_83 X, ⟨sr_L_law_84 X, ⟨sr_L_law_85 X, ⟨sr_L_law_86 X, ⟨sr_L_law_87 X, ⟨sr_L_law_88 X, ⟨sr_L_law_89 X, ⟨sr_L_law_90 X, ⟨sr_L_law_91 X, ⟨sr_L_law_92 X, ⟨sr_L_law_93 X, ⟨sr_L_law_94 X, ⟨sr_L_law_95 X, ⟨sr_L_law_96 X, ⟨sr_L_law_97 X, ⟨sr_L_law_98 X, ⟨sr_L_law_99 X, ⟨sr_L_law_100 X, ⟨sr_L_law_101 X, ⟨sr_L_law_102 X, ⟨sr_L_law_103 X, ⟨sr_L_law_104 X, ⟨sr_L_law_105 X, ⟨sr_L_law_106 X, ⟨sr_L_law_107 X, ⟨sr_L_law_108 X, ⟨sr_L_law_109 X, ⟨sr_L_law_110 X, ⟨sr_L_law_111 X, ⟨sr_L_law_112 X, ⟨sr_L_law_113 X, ⟨sr_L_law_114 X, ⟨sr_L_law_115 X, ⟨sr_L_law_116 X, ⟨sr_L_law_117 X, ⟨sr_L_law_118 X, ⟨sr_L_law_119 X, ⟨sr_L_law_120 X, ⟨sr_L_law_121 X, ⟨sr_L_law_122 X, ⟨sr_L_law_123 X, ⟨sr_L_law_124 X, ⟨sr_L_law_125 X, ⟨sr_L_law_126 X, ⟨sr_L_law_127 X, ⟨sr_L_law_128 X, ⟨sr_L_law_129 X, ⟨sr_L_law_130 X, ⟨sr_L_law_131 X, ⟨sr_L_law_132 X, ⟨sr_L_law_133 X, ⟨sr_L_law_134 X, ⟨sr_L_law_135 X, ⟨sr_L_law_136 X, ⟨sr_L_law_137 X, ⟨sr_L_law_138 X, ⟨sr_L_law_139 X, ⟨sr_L_law_140 X, ⟨sr_L_law_141 X, ⟨sr_L_law_142 X, ⟨sr_L_law_143 X, ⟨sr_L_law_144 X, ⟨sr_L_law_145 X, ⟨sr_L_law_146 X, ⟨sr_L_law_147 X, ⟨sr_L_law_148 X, ⟨sr_L_law_149 X, ⟨sr_L_law_150 X, ⟨sr_L_law_151 X, ⟨sr_L_law_152 X, ⟨sr_L_law_153 X, ⟨sr_L_law_154 X, ⟨sr_L_law_155 X, ⟨sr_L_law_156 X, ⟨sr_L_law_157 X, ⟨sr_L_law_158 X, ⟨sr_L_law_159 X, ⟨sr_L_law_160 X, ⟨sr_L_law_161 X, ⟨sr_L_law_162 X, ⟨sr_L_law_163 X, ⟨sr_L_law_164 X, ⟨sr_L_law_165 X, ⟨sr_L_law_166 X, ⟨sr_L_law_167 X, ⟨sr_L_law_168 X, ⟨sr_L_law_169 X, ⟨sr_L_law_170 X, ⟨sr_L_law_171 X, ⟨sr_L_law_172 X, ⟨sr_L_law_173 X, ⟨sr_L_law_174 X, ⟨sr_L_law_175 X, ⟨sr_L_law_176 X, ⟨sr_L_law_177 X, ⟨sr_L_law_178 X, ⟨sr_L_law_179 X, ⟨sr_L_law_180 X, ⟨sr_L_law_181 X, ⟨sr_L_law_182 X, ⟨sr_L_law_183 X, ⟨sr_L_law_184 X, ⟨sr_L_law_185 X, ⟨sr_L_law_186 X, ⟨sr_L_law_187 X, ⟨sr_L_law_188 X, ⟨sr_L_law_189 X, ⟨sr_L_law_190 X, ⟨sr_L_law_191 X, ⟨sr_L_law_192 X, ⟨sr_L_law_193 X, ⟨sr_L_law_194 X, ⟨sr_L_law_195 X, ⟨sr_L_law_196 X, ⟨sr_L_law_197 X, ⟨sr_L_law_198 X, ⟨sr_L_law_199 X, ⟨sr_L_law_200 X, ⟨sr_L_law_201 X, ⟨sr_L_law_202 X, ⟨sr_L_law_203 X, ⟨sr_L_law_204 X, ⟨sr_L_law_205 X, ⟨sr_L_law_206 X, ⟨sr_L_law_207 X, ⟨sr_L_law_208 X, ⟨sr_L_law_209 X, ⟨sr_L_law_210 X, ⟨sr_L_law_211 X, ⟨sr_L_law_212 X, ⟨sr_L_law_213 X, ⟨sr_L_law_214 X, ⟨sr_L_law_215 X, ⟨sr_L_law_216 X, ⟨sr_L_law_217 X, ⟨sr_L_law_218 X, ⟨sr_L_law_219 X, ⟨sr_L_law_220 X, ⟨sr_L_law_221 X, ⟨sr_L_law_222 X, ⟨sr_L_law_223 X, ⟨sr_L_law_224 X, ⟨sr_L_law_225 X, ⟨sr_L_law_226 X, ⟨sr_L_law_227 X, ⟨sr_L_law_228 X, ⟨sr_L_law_229 X, ⟨sr_L_law_230 X, ⟨sr_L_law_231 X, ⟨sr_L_law_232 X, ⟨sr_L_law_233 X, ⟨sr_L_law_234 X, ⟨sr_L_law_235 X, ⟨sr_L_law_236 X, ⟨sr_L_law_237 X, ⟨sr_L_law_238 X, ⟨sr_L_law_239 X, ⟨sr_L_law_240 X, ⟨sr_L_law_241 X, ⟨sr_L_law_242 X, ⟨sr_L_law_243 X, ⟨sr_L_law_244 X, ⟨sr_L_law_245 X, ⟨sr_L_law_246 X, ⟨sr_L_law_247 X, ⟨sr_L_law_248 X, ⟨sr_L_law_249 X, ⟨sr_L_law_250 X, ⟨sr_L_law_251 X, ⟨sr_L_law_252 X, ⟨sr_L_law_253 X, trivial⟩⟩⟩⟩⟩⟩⟩⟩⟩⟩⟩⟩⟩⟩⟩⟩⟩⟩⟩⟩⟩⟩⟩⟩⟩⟩⟩⟩⟩⟩⟩⟩⟩⟩⟩⟩⟩⟩⟩⟩⟩⟩⟩⟩⟩⟩⟩⟩⟩⟩⟩⟩⟩⟩⟩⟩⟩⟩⟩⟩⟩⟩⟩⟩⟩⟩⟩⟩⟩⟩⟩⟩⟩⟩⟩⟩⟩⟩⟩⟩⟩⟩⟩⟩⟩⟩⟩⟩⟩⟩⟩⟩⟩⟩⟩⟩⟩⟩⟩⟩⟩⟩⟩⟩⟩⟩⟩⟩⟩⟩⟩⟩⟩⟩⟩⟩⟩⟩⟩⟩⟩⟩⟩⟩⟩⟩⟩⟩⟩⟩⟩⟩⟩⟩⟩⟩⟩⟩⟩⟩⟩⟩⟩⟩⟩⟩⟩⟩⟩⟩⟩⟩⟩⟩⟩⟩⟩⟩⟩⟩⟩⟩⟩⟩⟩⟩⟩⟩⟩⟩⟩⟩⟩⟩⟩⟩⟩⟩⟩⟩⟩⟩⟩⟩⟩⟩⟩⟩⟩⟩⟩⟩⟩⟩⟩⟩⟩⟩⟩⟩⟩⟩⟩⟩⟩⟩⟩⟩⟩⟩⟩⟩⟩⟩⟩⟩⟩⟩⟩⟩⟩⟩⟩⟩⟩⟩⟩⟩⟩⟩⟩⟩⟩⟩⟩⟩⟩⟩⟩⟩⟩⟩⟩⟩⟩⟩⟩⟩⟩⟩⟩⟩⟩⟩)
set_option maxRecDepth 100000 in
theorem rt_L_law (X : mx_X0) : ∀ i t, mx_nth (cd_L_law X) i = .inr (.inr t) → mx_rets code (mx_pc pc_L_law) (some .boolean) i t := mx_okl_all (P := fun i I => ∀ t, I = .inr (.inr t) → mx_rets code (mx_pc pc_L_law) (some .boolean) i t) (fun _ _ h => (nomatch h)) (⟨fun _ h => (nomatch h), ⟨fun _ h => (nomatch h), ⟨fun _ h => (nomatch h), ⟨fun _ h => (nomatch h), ⟨fun _ h => (nomatch h), ⟨fun _ h => (nomatch h), ⟨fun _ h => (nomatch h), ⟨fun _ h => (nomatch h), ⟨fun _ h => (nomatch h), ⟨fun _ h => (nomatch h), ⟨fun _ h => (nomatch h), ⟨fun _ h => (nomatch h), ⟨fun _ h => (nomatch h), ⟨fun _ h => (nomatch h), ⟨fun _ h => (nomatch h), ⟨fun _ h => (nomatch h), ⟨fun _ h => (nomatch h), ⟨fun _ h => (nomatch h), ⟨fun _ h => (nomatch h), ⟨fun _ h => (nomatch h), ⟨fun _ h => (nomatch h), ⟨fun _ h => (nomatch h), ⟨fun _ h => (nomatch h), ⟨fun _ h => (nomatch h), ⟨fun _ h => (nomatch h), ⟨fun _ h => (nomatch h), ⟨fun _ h => (nomatch h), ⟨fun _ h => (nomatch h), ⟨fun _ h => (nomatch h), ⟨fun _ h => (nomatch h), ⟨fun _ h => (nomatch h), ⟨fun _ h => (nomatch h), ⟨fun _ h => (nomatch h), ⟨fun _ h => (nomatch h), ⟨fun _ h => (nomatch h), ⟨fun _ h => (nomatch h), ⟨fun _ h => (nomatch h), ⟨fun _ h => (nomatch h), ⟨fun _ h => (nomatch h), ⟨fun _ h => (nomatch h), ⟨fun _ h => (nomatch h), ⟨fun _ h => (nomatch h), ⟨fun _ h => (nomatch h), ⟨fun t h => (by cases h; exact ⟨by decide +kernel, rfl⟩), ⟨fun _ h => (nomatch h), ⟨fun _ h => (nomatch h), ⟨fun _ h => (nomatch h), ⟨fun _ h => (nomatch h), ⟨fun _ h => (nomatch h), ⟨fun _ h => (nomatch h), ⟨fun _ h => (nomatch h), ⟨fun _ h => (nomatch h), ⟨fun _ h => (nomatch h), ⟨fun _ h => (nomatch h), ⟨fun _ h => (nomatch h), ⟨fun _ h => (nomatch h), ⟨fun _ h => (nomatch h), ⟨fun _ h => (nomatch h), ⟨fun _ h => (nomatch h), ⟨fun _ h => (nomatch h), ⟨fun _ h => (nomatch h), ⟨fun _ h => (nomatch h), ⟨fun _ h => (nomatch h), ⟨fun _ h => (nomatch h), ⟨fun _ h => (nomatch h), ⟨fun _ h => (nomatch h), ⟨fun _ h => (nomatch h), ⟨fun _ h => (nomatch h), ⟨fun _ h => (nomatch h), ⟨fun _ h => (nomatch h), ⟨fun t h => (by cases h; exact ⟨by decide +kernel, rfl⟩), ⟨fun _ h => (nomatch h), ⟨fun _ h => (nomatch h), ⟨fun _ h => (nomatch h), ⟨fun _ h => (nomatch h), ⟨fun _ h => (nomatch h), ⟨fun _ h => (nomatch h), ⟨fun _ h => (nomatch h), ⟨fun _ h => (nomatch h), ⟨fun _ h => (nomatch h), ⟨fun _ h => (nomatch h), ⟨fun _ h => (nomatch h), ⟨fun _ h => (nomatch h), ⟨fun _ h => (nomatch h), ⟨fun _ h => (nomatch h), ⟨fun _ h => (nomatch h), ⟨fun _ h => (nomatch h), ⟨fun _ h => (nomatch h), ⟨fun _ h => (nomatch h), ⟨fun _ h => (nomatch h), ⟨fun _ h => (nomatch h), ⟨fun _ h => (nomatch h), ⟨fun _ h => (nomatch h), ⟨fun _ h => (nomatch h), ⟨fun _ h => (nomatch h), ⟨fun _ h => (nomatch h), ⟨fun _ h => (nomatch h), ⟨fun t h => (by cases h; exact ⟨by decide +kernel, rfl⟩), ⟨fun _ h => (nomatch h), ⟨fun _ h => (nomatch h), ⟨fun _ h => (nomatch h), ⟨fun _ h => (nomatch h), ⟨fun _ h => (nomatch h), ⟨fun _ h => (nomatch h), ⟨fun _ h => (nomatch h), ⟨fun _ h => (nomatch h), ⟨fun _ h => (nomatch h), ⟨fun _ h => (nomatch h), ⟨fun _ h => (nomatch h), ⟨fun _ h => (nomatch h), ⟨fun _ h => (nomatch h), ⟨fun _ h => (nomatch h), ⟨fun _ h => (nomatch h), ⟨fun _ h => (nomatch h), ⟨fun _ h => (nomatch h), ⟨fun _ h => (nomatch h), ⟨fun _ h => (nomatch h), ⟨fun _ h => (nomatch h), ⟨fun _ h => (nomatch h), ⟨fun _ h => (nomatch h), ⟨fun _ h => (nomatch h), ⟨fun _ h => (nomatch h), ⟨fun _ h => (nomatch h), ⟨fun _ h => (nomatch h), ⟨fun _ h => (nomatch h), ⟨fun _ h => (nomatch h), ⟨fun _ h => (nomatch h), ⟨fun _ h => (nomatch h), ⟨fun _ h => (nomatch h), ⟨fun _ h => (nomatch h), ⟨fun _ h => (nomatch h), ⟨fun _ h => (nomatch h), ⟨fun _ h => (nomatch h), ⟨fun _ h => (nomatch h), ⟨fun _ h => (nomatch h), ⟨fun _ h => (nomatch h), ⟨fun _ h => (nomatch h), ⟨fun _ h => (nomatch h), ⟨fun _ h => (nomatch h), ⟨fun _ h => (nomatch h), ⟨fun _ h => (nomatch h), ⟨fun _ h => (nomatch h), ⟨fun _ h => (nomatch h), ⟨fun _ h => (nomatch h), ⟨fun t h => (by cases h; exact ⟨by decide +kernel, rfl⟩), ⟨fun _ h => (nomatch h), ⟨fun _ h => (nomatch h), ⟨fun _ h => (nomatch h), ⟨fun _ h => (nomatch h), ⟨fun _ h => (nomatch h), ⟨fun _ h => (nomatch h), ⟨fun _ h => (nomatch h), ⟨fun _ h => (nomatch h), ⟨fun _ h => (nomatch h), ⟨fun _ h => (nomatch h), ⟨fun _ h => (nomatch h), ⟨fun _ h => (nomatch h), ⟨fun _ h => (nomatch h), ⟨fun _ h => (nomatch h), ⟨fun _ h => (nomatch h), ⟨fun _ h => (nomatch h), ⟨fun t h => (by cases h; exact ⟨by decide +kernel, rfl⟩), ⟨fun _ h => (nomatch h), ⟨fun _ h => (nomatch h), ⟨fun _ h => (nomatch h), ⟨fun _ h => (nomatch h), ⟨fun _ h => (nomatch h), ⟨fun _ h => (nomatch h), ⟨fun _ h => (nomatch h), ⟨fun _ h => (nomatch h), ⟨fun _ h => (nomatch h), ⟨fun _ h => (nomatch h), ⟨fun _ h => (nomatch h), ⟨fun _ h => (nomatch h), ⟨fun _ h => (nomatch h), ⟨fun _ h => (nomatch h), ⟨fun _ h => (nomatch h), ⟨fun _ h => (nomatch h), ⟨fun t h => (by cases h; exact ⟨by decide +kernel, rfl⟩), ⟨fun _ h => (nomatch h), ⟨fun _ h => (nomatch h), ⟨fun _ h => (nomatch h), ⟨fun _ h => (nomatch h), ⟨fun _ h => (nomatch h), ⟨fun _ h => (nomatch h), ⟨fun _ h => (nomatch h), ⟨fun _ h => (nomatch h), ⟨fun _ h => (nomatch h), ⟨fun _ h => (nomatch h), ⟨fun _ h => (nomatch h), ⟨fun _ h => (nomatch h), ⟨fun _ h => (nomatch h), ⟨fun _ h => (nomatch h), ⟨fun _ h => (nomatch h), ⟨fun _ h => (nomatch h), ⟨fun _ h => (nomatch h), ⟨fun _ h => (nomatch h), ⟨fun _ h => (nomatch h), ⟨fun _ h => (nomatch h), ⟨fun _ h => (nomatch h), ⟨fun _ h => (nomatch h), ⟨fun _ h => (nomatch h), ⟨fun _ h => (nomatch h), ⟨fun _ h => (nomatch h), ⟨fun _ h => (nomatch h), ⟨fun t h => (by cases h; exact ⟨by decide +kernel, rfl⟩), ⟨fun _ h => (nomatch h), ⟨fun _ h => (nomatch h), ⟨fun _ h => (nomatch h), ⟨fun _ h => (nomatch h), ⟨fun _ h => (nomatch h), ⟨fun _ h => (nomatch h), ⟨fun _ h => (nomatch h), ⟨fun _ h => (nomatch h), ⟨fun _ h => (nomatch h), ⟨fun _ h => (nomatch h), ⟨fun _ h => (nomatch h), ⟨fun _ h => (nomatch h), ⟨fun _ h => (nomatch h), ⟨fun _ h => (nomatch h), ⟨fun _ h => (nomatch h), ⟨fun _ h => (nomatch h), ⟨fun t h => (by cases h; exact ⟨by decide +kernel, rfl⟩), ⟨fun _ h => (nomatch h), ⟨fun _ h => (nomatch h), ⟨fun _ h => (nomatch h), ⟨fun _ h => (nomatch h), ⟨fun _ h => (nomatch h), ⟨fun _ h => (nomatch h), ⟨fun _ h => (nomatch h), ⟨fun _ h => (nomatch h), ⟨fun _ h => (nomatch h), ⟨fun _ h => (nomatch h), ⟨fun _ h => (nomatch h), ⟨fun _ h => (nomatch h), ⟨fun _ h => (nomatch h), ⟨fun _ h => (nomatch h), ⟨fun _ h => (nomatch h), ⟨fun _ h => (nomatch h), ⟨fun _ h => (nomatch h), ⟨fun _ h => (nomatch h), ⟨fun _ h => (nomatch h), ⟨fun _ h => (nomatch h), ⟨fun _ h => (nomatch h), ⟨fun _ h => (nomatch h), ⟨fun _ h => (nomatch h), ⟨fun _ h => (nomatch h), ⟨fun _ h => (nomatch h), ⟨fun _ h => (nomatch h), ⟨fun t h => (by cases h; exact ⟨by decide +kernel, rfl⟩), ⟨fun _ h => (nomatch h), ⟨fun _ h => (nomatch h), ⟨fun _ h => (nomatch h), ⟨fun t h => (by cases h; exact ⟨by decide +kernel, rfl⟩), trivial⟩⟩⟩⟩⟩⟩⟩⟩⟩⟩⟩⟩⟩⟩⟩⟩⟩⟩⟩⟩⟩⟩⟩⟩⟩⟩⟩⟩⟩⟩⟩⟩⟩⟩⟩⟩⟩⟩⟩⟩⟩⟩⟩⟩⟩⟩⟩⟩⟩⟩⟩⟩⟩⟩⟩⟩⟩⟩⟩⟩⟩⟩⟩⟩⟩⟩⟩⟩⟩⟩⟩⟩⟩⟩⟩⟩⟩⟩⟩⟩⟩⟩⟩⟩⟩⟩⟩⟩⟩⟩⟩⟩⟩⟩⟩⟩⟩⟩⟩⟩⟩⟩⟩⟩⟩⟩⟩⟩⟩⟩⟩⟩⟩⟩⟩⟩⟩⟩⟩⟩⟩⟩⟩⟩⟩⟩⟩⟩⟩⟩⟩⟩⟩⟩⟩⟩⟩⟩⟩⟩⟩⟩⟩⟩⟩⟩⟩⟩⟩⟩⟩⟩⟩⟩⟩⟩⟩⟩⟩⟩⟩⟩⟩⟩⟩⟩⟩⟩⟩⟩⟩⟩⟩⟩⟩⟩⟩⟩⟩⟩⟩⟩⟩⟩⟩⟩⟩⟩⟩⟩⟩⟩⟩⟩⟩⟩⟩⟩⟩⟩⟩⟩⟩⟩⟩⟩⟩⟩⟩⟩⟩⟩⟩⟩⟩⟩⟩⟩⟩⟩⟩⟩⟩⟩⟩⟩⟩⟩⟩⟩⟩⟩⟩⟩⟩⟩⟩⟩⟩⟩⟩⟩⟩⟩⟩⟩⟩⟩⟩⟩⟩⟩⟩⟩)
