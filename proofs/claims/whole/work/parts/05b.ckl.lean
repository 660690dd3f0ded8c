theorem jlt_266 : ∀ pc e, jI_266 pc = some e → pc < 1732 := fun _ _ h => jlt h
set_option maxRecDepth 100000 in
theorem jcl_0 : jckC jD_266 0 24 = true := by decide +kernel
set_option maxRecDepth 100000 in
theorem jcl_1 : jckC jD_266 24 24 = true := by decide +kernel
set_option maxRecDepth 100000 in
theorem jcl_2 : jckC jD_266 48 24 = true := by decide +kernel
set_option maxRecDepth 100000 in
theorem jcl_3 : jckC jD_266 72 24 = true := by decide +kernel
set_option maxRecDepth 100000 in
theorem jcl_4 : jckC jD_266 96 24 = true := by decide +kernel
set_option maxRecDepth 100000 in
theorem jcl_5 : jckC jD_266 120 24 = true := by decide +kernel
set_option maxRecDepth 100000 in
theorem jcl_6 : jckC jD_266 144 24 = true := by decide +kernel
set_option maxRecDepth 100000 in
theorem jcl_7 : jckC jD_266 168 24 = true := by decide +kernel
set_option maxRecDepth 100000 in
theorem jcl_8 : jckC jD_266 192 24 = true := by decide +kernel
set_option maxRecDepth 100000 in
theorem jcl_9 : jckC jD_266 216 24 = true := by decide +kernel
set_option maxRecDepth 100000 in
theorem jcl_10 : jckC jD_266 240 24 = true := by decide +kernel
set_option maxRecDepth 100000 in
theorem jcl_11 : jckC jD_266 264 24 = true := by decide +kernel
set_option maxRecDepth 100000 in
theorem jcl_12 : jckC jD_266 288 24 = true := by decide +kernel
set_option maxRecDepth 100000 in
theorem jcl_13 : jckC jD_266 312 24 = true := by decide +kernel
set_option maxRecDepth 100000 in
theorem jcl_14 : jckC jD_266 336 24 = true := by decide +kernel
set_option maxRecDepth 100000 in
theorem jcl_15 : jckC jD_266 360 24 = true := by decide +kernel
set_option maxRecDepth 100000 in
theorem jcl_16 : jckC jD_266 384 24 = true := by decide +kernel
set_option maxRecDepth 100000 in
theorem jcl_17 : jckC jD_266 408 24 = true := by decide +kernel
set_option maxRecDepth 100000 in
theorem jcl_18 : jckC jD_266 432 24 = true := by decide +kernel
set_option maxRecDepth 100000 in
theorem jcl_19 : jckC jD_266 456 24 = true := by decide +kernel
set_option maxRecDepth 100000 in
theorem jcl_20 : jckC jD_266 480 24 = true := by decide +kernel
set_option maxRecDepth 100000 in
theorem jcl_21 : jckC jD_266 504 24 = true := by decide +kernel
set_option maxRecDepth 100000 in
theorem jcl_22 : jckC jD_266 528 24 = true := by decide +kernel
set_option maxRecDepth 100000 in
theorem jcl_23 : jckC jD_266 552 24 = true := by decide +kernel
set_option maxRecDepth 100000 in
theorem jcl_24 : jckC jD_266 576 24 = true := by decide +kernel
set_option maxRecDepth 100000 in
theorem jcl_25 : jckC jD_266 600 24 = true := by decide +kernel
set_option maxRecDepth 100000 in
theorem jcl_26 : jckC jD_266 624 24 = true := by decide +kernel
set_option maxRecDepth 100000 in
theorem jcl_27 : jckC jD_266 648 24 = true := by decide +kernel
set_option maxRecDepth 100000 in
theorem jcl_28 : jckC jD_266 672 24 = true := by decide +kernel
set_option maxRecDepth 100000 in
theorem jcl_29 : jckC jD_266 696 24 = true := by decide +kernel
set_option maxRecDepth 100000 in
theorem jcl_30 : jckC jD_266 720 24 = true := by decide +kernel
set_option maxRecDepth 100000 in
theorem jcl_31 : jckC jD_266 744 24 = true := by decide +kernel
set_option maxRecDepth 100000 in
theorem jcl_32 : jckC jD_266 768 24 = true := by decide +kernel
set_option maxRecDepth 100000 in
theorem jcl_33 : jckC jD_266 792 24 = true := by decide +kernel
set_option maxRecDepth 100000 in
theorem jcl_34 : jckC jD_266 816 24 = true := by decide +kernel
set_option maxRecDepth 100000 in
theorem jcl_35 : jckC jD_266 840 24 = true := by decide +kernel
set_option maxRecDepth 100000 in
theorem jcl_36 : jckC jD_266 864 24 = true := by decide +kernel
set_option maxRecDepth 100000 in
theorem jcl_37 : jckC jD_266 888 24 = true := by decide +kernel
set_option maxRecDepth 100000 in
theorem jcl_38 : jckC jD_266 912 24 = true := by decide +kernel
set_option maxRecDepth 100000 in
theorem jcl_39 : jckC jD_266 936 24 = true := by decide +kernel
set_option maxRecDepth 100000 in
theorem jcl_40 : jckC jD_266 960 24 = true := by decide +kernel
set_option maxRecDepth 100000 in
theorem jcl_41 : jckC jD_266 984 24 = true := by decide +kernel
set_option maxRecDepth 100000 in
theorem jcl_42 : jckC jD_266 1008 24 = true := by decide +kernel
set_option maxRecDepth 100000 in
theorem jcl_43 : jckC jD_266 1032 24 = true := by decide +kernel
set_option maxRecDepth 100000 in
theorem jcl_44 : jckC jD_266 1056 24 = true := by decide +kernel
set_option maxRecDepth 100000 in
theorem jcl_45 : jckC jD_266 1080 24 = true := by decide +kernel
set_option maxRecDepth 100000 in
theorem jcl_46 : jckC jD_266 1104 24 = true := by decide +kernel
set_option maxRecDepth 100000 in
theorem jcl_47 : jckC jD_266 1128 24 = true := by decide +kernel
set_option maxRecDepth 100000 in
theorem jcl_48 : jckC jD_266 1152 24 = true := by decide +kernel
set_option maxRecDepth 100000 in
theorem jcl_49 : jckC jD_266 1176 24 = true := by decide +kernel
set_option maxRecDepth 100000 in
theorem jcl_50 : jckC jD_266 1200 24 = true := by decide +kernel
set_option maxRecDepth 100000 in
theorem jcl_51 : jckC jD_266 1224 24 = true := by decide +kernel
set_option maxRecDepth 100000 in
theorem jcl_52 : jckC jD_266 1248 24 = true := by decide +kernel
set_option maxRecDepth 100000 in
theorem jcl_53 : jckC jD_266 1272 24 = true := by decide +kernel
set_option maxRecDepth 100000 in
theorem jcl_54 : jckC jD_266 1296 24 = true := by decide +kernel
set_option maxRecDepth 100000 in
theorem jcl_55 : jckC jD_266 1320 24 = true := by decide +kernel
set_option maxRecDepth 100000 in
theorem jcl_56 : jckC jD_266 1344 24 = true := by decide +kernel
set_option maxRecDepth 100000 in
theorem jcl_57 : jckC jD_266 1368 24 = true := by decide +kernel
set_option maxRecDepth 100000 in
theorem jcl_58 : jckC jD_266 1392 24 = true := by decide +kernel
set_option maxRecDepth 100000 in
theorem jcl_59 : jckC jD_266 1416 24 = true := by decide +kernel
set_option maxRecDepth 100000 in
theorem jcl_60 : jckC jD_266 1440 24 = true := by decide +kernel
set_option maxRecDepth 100000 in
theorem jcl_61 : jckC jD_266 1464 24 = true := by decide +kernel
set_option maxRecDepth 100000 in
theorem jcl_62 : jckC jD_266 1488 24 = true := by decide +kernel
set_option maxRecDepth 100000 in
theorem jcl_63 : jckC jD_266 1512 24 = true := by decide +kernel
set_option maxRecDepth 100000 in
theorem jcl_64 : jckC jD_266 1536 24 = true := by decide +kernel
set_option maxRecDepth 100000 in
theorem jcl_65 : jckC jD_266 1560 24 = true := by decide +kernel
set_option maxRecDepth 100000 in
theorem jcl_66 : jckC jD_266 1584 24 = true := by decide +kernel
set_option maxRecDepth 100000 in
theorem jcl_67 : jckC jD_266 1608 24 = true := by decide +kernel
set_option maxRecDepth 100000 in
theorem jcl_68 : jckC jD_266 1632 24 = true := by decide +kernel
set_option maxRecDepth 100000 in
theorem jcl_69 : jckC jD_266 1656 24 = true := by decide +kernel
set_option maxRecDepth 100000 in
theorem jcl_70 : jckC jD_266 1680 24 = true := by decide +kernel
set_option maxRecDepth 100000 in
theorem jcl_71 : jckC jD_266 1704 24 = true := by decide +kernel
set_option maxRecDepth 100000 in
theorem jcl_72 : jckC jD_266 1728 24 = true := by decide +kernel
theorem jcx_0 : jckC jD_266 0 24 = true := jcl_0
theorem jcx_1 : jckC jD_266 0 48 = true := jckC_app jcx_0 jcl_1
theorem jcx_2 : jckC jD_266 0 72 = true := jckC_app jcx_1 jcl_2
theorem jcx_3 : jckC jD_266 0 96 = true := jckC_app jcx_2 jcl_3
theorem jcx_4 : jckC jD_266 0 120 = true := jckC_app jcx_3 jcl_4
theorem jcx_5 : jckC jD_266 0 144 = true := jckC_app jcx_4 jcl_5
theorem jcx_6 : jckC jD_266 0 168 = true := jckC_app jcx_5 jcl_6
theorem jcx_7 : jckC jD_266 0 192 = true := jckC_app jcx_6 jcl_7
theorem jcx_8 : jckC jD_266 0 216 = true := jckC_app jcx_7 jcl_8
theorem jcx_9 : jckC jD_266 0 240 = true := jckC_app jcx_8 jcl_9
theorem jcx_10 : jckC jD_266 0 264 = true := jckC_app jcx_9 jcl_10
theorem jcx_11 : jckC jD_266 0 288 = true := jckC_app jcx_10 jcl_11
theorem jcx_12 : jckC jD_266 0 312 = true := jckC_app jcx_11 jcl_12
theorem jcx_13 : jckC jD_266 0 336 = true := jckC_app jcx_12 jcl_13
theorem jcx_14 : jckC jD_266 0 360 = true := jckC_app jcx_13 jcl_14
theorem jcx_15 : jckC jD_266 0 384 = true := jckC_app jcx_14 jcl_15
theorem jcx_16 : jckC jD_266 0 408 = true := jckC_app jcx_15 jcl_16
theorem jcx_17 : jckC jD_266 0 432 = true := jckC_app jcx_16 jcl_17
theorem jcx_18 : jckC jD_266 0 456 = true := jckC_app jcx_17 jcl_18
theorem jcx_19 : jckC jD_266 0 480 = true := jckC_app jcx_18 jcl_19
theorem jcx_20 : jckC jD_266 0 504 = true := jckC_app jcx_19 jcl_20
theorem jcx_21 : jckC jD_266 0 528 = true := jckC_app jcx_20 jcl_21
theorem jcx_22 : jckC jD_266 0 552 = true := jckC_app jcx_21 jcl_22
theorem jcx_23 : jckC jD_266 0 576 = true := jckC_app jcx_22 jcl_23
theorem jcx_24 : jckC jD_266 0 600 = true := jckC_app jcx_23 jcl_24
theorem jcx_25 : jckC jD_266 0 624 = true := jckC_app jcx_24 jcl_25
theorem jcx_26 : jckC jD_266 0 648 = true := jckC_app jcx_25 jcl_26
theorem jcx_27 : jckC jD_266 0 672 = true := jckC_app jcx_26 jcl_27
theorem jcx_28 : jckC jD_266 0 696 = true := jckC_app jcx_27 jcl_28
theorem jcx_29 : jckC jD_266 0 720 = true := jckC_app jcx_28 jcl_29
theorem jcx_30 : jckC jD_266 0 744 = true := jckC_app jcx_29 jcl_30
theorem jcx_31 : jckC jD_266 0 768 = true := jckC_app jcx_30 jcl_31
theorem jcx_32 : jckC jD_266 0 792 = true := jckC_app jcx_31 jcl_32
theorem jcx_33 : jckC jD_266 0 816 = true := jckC_app jcx_32 jcl_33
theorem jcx_34 : jckC jD_266 0 840 = true := jckC_app jcx_33 jcl_34
theorem jcx_35 : jckC jD_266 0 864 = true := jckC_app jcx_34 jcl_35
theorem jcx_36 : jckC jD_266 0 888 = true := jckC_app jcx_35 jcl_36
theorem jcx_37 : jckC jD_266 0 912 = true := jckC_app jcx_36 jcl_37
theorem jcx_38 : jckC jD_266 0 936 = true := jckC_app jcx_37 jcl_38
theorem jcx_39 : jckC jD_266 0 960 = true := jckC_app jcx_38 jcl_39
theorem jcx_40 : jckC jD_266 0 984 = true := jckC_app jcx_39 jcl_40
theorem jcx_41 : jckC jD_266 0 1008 = true := jckC_app jcx_40 jcl_41
theorem jcx_42 : jckC jD_266 0 1032 = true := jckC_app jcx_41 jcl_42
theorem jcx_43 : jckC jD_266 0 1056 = true := jckC_app jcx_42 jcl_43
theorem jcx_44 : jckC jD_266 0 1080 = true := jckC_app jcx_43 jcl_44
theorem jcx_45 : jckC jD_266 0 1104 = true := jckC_app jcx_44 jcl_45
theorem jcx_46 : jckC jD_266 0 1128 = true := jckC_app jcx_45 jcl_46
theorem jcx_47 : jckC jD_266 0 1152 = true := jckC_app jcx_46 jcl_47
theorem jcx_48 : jckC jD_266 0 1176 = true := jckC_app jcx_47 jcl_48
theorem jcx_49 : jckC jD_266 0 1200 = true := jckC_app jcx_48 jcl_49
theorem jcx_50 : jckC jD_266 0 1224 = true := jckC_app jcx_49 jcl_50
theorem jcx_51 : jckC jD_266 0 1248 = true := jckC_app jcx_50 jcl_51
theorem jcx_52 : jckC jD_266 0 1272 = true := jckC_app jcx_51 jcl_52
theorem jcx_53 : jckC jD_266 0 1296 = true := jckC_app jcx_52 jcl_53
theorem jcx_54 : jckC jD_266 0 1320 = true := jckC_app jcx_53 jcl_54
theorem jcx_55 : jckC jD_266 0 1344 = true := jckC_app jcx_54 jcl_55
theorem jcx_56 : jckC jD_266 0 1368 = true := jckC_app jcx_55 jcl_56
theorem jcx_57 : jckC jD_266 0 1392 = true := jckC_app jcx_56 jcl_57
theorem jcx_58 : jckC jD_266 0 1416 = true := jckC_app jcx_57 jcl_58
theorem jcx_59 : jckC jD_266 0 1440 = true := jckC_app jcx_58 jcl_59
theorem jcx_60 : jckC jD_266 0 1464 = true := jckC_app jcx_59 jcl_60
theorem jcx_61 : jckC jD_266 0 1488 = true := jckC_app jcx_60 jcl_61
theorem jcx_62 : jckC jD_266 0 1512 = true := jckC_app jcx_61 jcl_62
theorem jcx_63 : jckC jD_266 0 1536 = true := jckC_app jcx_62 jcl_63
theorem jcx_64 : jckC jD_266 0 1560 = true := jckC_app jcx_63 jcl_64
theorem jcx_65 : jckC jD_266 0 1584 = true := jckC_app jcx_64 jcl_65
theorem jcx_66 : jckC jD_266 0 1608 = true := jckC_app jcx_65 jcl_66
theorem jcx_67 : jckC jD_266 0 1632 = true := jckC_app jcx_66 jcl_67
theorem jcx_68 : jckC jD_266 0 1656 = true := jckC_app jcx_67 jcl_68
theorem jcx_69 : jckC jD_266 0 1680 = true := jckC_app jcx_68 jcl_69
theorem jcx_70 : jckC jD_266 0 1704 = true := jckC_app jcx_69 jcl_70
theorem jcx_71 : jckC jD_266 0 1728 = true := jckC_app jcx_70 jcl_71
theorem jcx_72 : jckC jD_266 0 1752 = true := jckC_app jcx_71 jcl_72
theorem jck_266 : jOk jD_266 := jOk_of (n := 1752) (by decide +kernel) jcx_72 (fun pc e h => Nat.lt_of_lt_of_le (jlt_266 pc e h) (Nat.le_of_ble_eq_true rfl))
theorem jck_no : jOk jD_no := jOk_of (n := 0) (by decide +kernel) (by decide +kernel) (fun _ _ h => by cases h)
theorem jck_all (k : Nat) : jPP (jM k) := (jcond (P := jPP) (jcond (P := jPP) (jcond (P := jPP) (jcond (P := jPP) (jcond (P := jPP) (jcond (P := jPP) (jcond (P := jPP) (jcond (P := jPP) (Or.inr jck_0) (Or.inr jck_1)) (jcond (P := jPP) (Or.inr jck_2) (Or.inr jck_3))) (jcond (P := jPP) (jcond (P := jPP) (Or.inr jck_4) (Or.inr jck_5)) (jcond (P := jPP) (Or.inr jck_6) (Or.inr jck_7)))) (jcond (P := jPP) (jcond (P := jPP) (jcond (P := jPP) (Or.inr jck_8) (Or.inr jck_9)) (jcond (P := jPP) (Or.inr jck_10) (Or.inr jck_11))) (jcond (P := jPP) (jcond (P := jPP) (Or.inr jck_12) (Or.inr jck_13)) (jcond (P := jPP) (Or.inr jck_14) (Or.inr jck_15))))) (jcond (P := jPP) (jcond (P := jPP) (jcond (P := jPP) (jcond (P := jPP) (Or.inr jck_16) (Or.inr jck_17)) (jcond (P := jPP) (Or.inr jck_18) (Or.inr jck_19))) (jcond (P := jPP) (jcond (P := jPP) (Or.inr jck_20) (Or.inr jck_21)) (jcond (P := jPP) (Or.inr jck_22) (Or.inr jck_23)))) (jcond (P := jPP) (jcond (P := jPP) (jcond (P := jPP) (Or.inr jck_24) (Or.inr jck_25)) (jcond (P := jPP) (Or.inr jck_26) (Or.inr jck_27))) (jcond (P := jPP) (jcond (P := jPP) (Or.inr jck_28) (Or.inr jck_29)) (jcond (P := jPP) (Or.inr jck_30) (jcond (P := jPP) (Or.inr jck_31) (Or.inr jck_32))))))) (jcond (P := jPP) (jcond (P := jPP) (jcond (P := jPP) (jcond (P := jPP) (jcond (P := jPP) (Or.inr jck_33) (Or.inr jck_34)) (jcond (P := jPP) (Or.inr jck_35) (Or.inr jck_36))) (jcond (P := jPP) (jcond (P := jPP) (Or.inr jck_37) (Or.inr jck_38)) (jcond (P := jPP) (Or.inr jck_39) (Or.inr jck_40)))) (jcond (P := jPP) (jcond (P := jPP) (jcond (P := jPP) (Or.inr jck_41) (Or.inr jck_42)) (jcond (P := jPP) (Or.inr jck_43) (Or.inr jck_44))) (jcond (P := jPP) (jcond (P := jPP) (Or.inr jck_45) (Or.inr jck_46)) (jcond (P := jPP) (Or.inr jck_47) (jcond (P := jPP) (Or.inr jck_48) (Or.inr jck_49)))))) (jcond (P := jPP) (jcond (P := jPP) (jcond (P := jPP) (jcond (P := jPP) (Or.inr jck_50) (Or.inr jck_51)) (jcond (P := jPP) (Or.inr jck_52) (Or.inr jck_53))) (jcond (P := jPP) (jcond (P := jPP) (Or.inr jck_54) (Or.inr jck_55)) (jcond (P := jPP) (Or.inr jck_56) (Or.inr jck_57)))) (jcond (P := jPP) (jcond (P := jPP) (jcond (P := jPP) (Or.inr jck_58) (Or.inr jck_59)) (jcond (P := jPP) (Or.inr jck_60) (Or.inr jck_61))) (jcond (P := jPP) (jcond (P := jPP) (Or.inr jck_62) (Or.inr jck_63)) (jcond (P := jPP) (Or.inr jck_64) (jcond (P := jPP) (Or.inr jck_65) (Or.inr jck_66)))))))) (jcond (P := jPP) (jcond (P := jPP) (jcond (P := jPP) (jcond (P := jPP) (jcond (P := jPP) (jcond (P := jPP) (Or.inr jck_67) (Or.inr jck_68)) (jcond (P := jPP) (Or.inr jck_69) (Or.inr jck_70))) (jcond (P := jPP) (jcond (P := jPP) (Or.inr jck_71) (Or.inr jck_72)) (jcond (P := jPP) (Or.inr jck_73) (Or.inr jck_74)))) (jcond (P := jPP) (jcond (P := jPP) (jcond (P := jPP) (Or.inr jck_75) (Or.inr jck_76)) (jcond (P := jPP) (Or.inr jck_77) (Or.inr jck_78))) (jcond (P := jPP) (jcond (P := jPP) (Or.inr jck_79) (Or.inr jck_80)) (jcond (P := jPP) (Or.inr jck_81) (Or.inr jck_82))))) (jcond (P := jPP) (jcond (P := jPP) (jcond (P := jPP) (jcond (P := jPP) (Or.inr jck_83) (Or.inr jck_84)) (jcond (P := jPP) (Or.inr jck_85) (Or.inr jck_86))) (jcond (P := jPP) (jcond (P := jPP) (Or.inr jck_87) (Or.inr jck_88)) (jcond (P := jPP) (Or.inr jck_89) (Or.inr jck_90)))) (jcond (P := jPP) (jcond (P := jPP) (jcond (P := jPP) (Or.inr jck_91) (Or.inr jck_92)) (jcond (P := jPP) (Or.inr jck_93) (Or.inr jck_94))) (jcond (P := jPP) (jcond (P := jPP) (Or.inr jck_95) (Or.inr jck_96)) (jcond (P := jPP) (Or.inr jck_97) (jcond (P := jPP) (Or.inr jck_98) (Or.inr jck_99))))))) (jcond (P := jPP) (jcond (P := jPP) (jcond (P := jPP) (jcond (P := jPP) (jcond (P := jPP) (Or.inr jck_100) (Or.inr jck_101)) (jcond (P := jPP) (Or.inr jck_102) (Or.inr jck_103))) (jcond (P := jPP) (jcond (P := jPP) (Or.inr jck_104) (Or.inr jck_105)) (jcond (P := jPP) (Or.inr jck_106) (Or.inr jck_107)))) (jcond (P := jPP) (jcond (P := jPP) (jcond (P := jPP) (Or.inr jck_108) (Or.inr jck_109)) (jcond (P := jPP) (Or.inr jck_110) (Or.inr jck_111))) (jcond (P := jPP) (jcond (P := jPP) (Or.inr jck_112) (Or.inr jck_113)) (jcond (P := jPP) (Or.inr jck_114) (jcond (P := jPP) (Or.inr jck_115) (Or.inr jck_116)))))) (jcond (P := jPP) (jcond (P := jPP) (jcond (P := jPP) (jcond (P := jPP) (Or.inr jck_117) (Or.inr jck_118)) (jcond (P := jPP) (Or.inr jck_119) (Or.inr jck_120))) (jcond (P := jPP) (jcond (P := jPP) (Or.inr jck_121) (Or.inr jck_122)) (jcond (P := jPP) (Or.inr jck_123) (Or.inr jck_124)))) (jcond (P := jPP) (jcond (P := jPP) (jcond (P := jPP) (Or.inr jck_125) (Or.inr jck_126)) (jcond (P := jPP) (Or.inr jck_127) (Or.inr jck_128))) (jcond (P := jPP) (jcond (P := jPP) (Or.inr jck_129) (Or.inr jck_130)) (jcond (P := jPP) (Or.inr jck_131) (jcond (P := jPP) (Or.inr jck_132) (Or.inr jck_133))))))))) (jcond (P := jPP) (jcond (P := jPP) (jcond (P := jPP) (jcond (P := jPP) (jcond (P := jPP) (jcond (P := jPP) (jcond (P := jPP) (Or.inr jck_134) (Or.inr jck_135)) (jcond (P := jPP) (Or.inr jck_136) (Or.inr jck_137))) (jcond (P := jPP) (jcond (P := jPP) (Or.inr jck_138) (Or.inr jck_139)) (jcond (P := jPP) (Or.inr jck_140) (Or.inr jck_141)))) (jcond (P := jPP) (jcond (P := jPP) (jcond (P := jPP) (Or.inr jck_142) (Or.inr jck_143)) (jcond (P := jPP) (Or.inr jck_144) (Or.inr jck_145))) (jcond (P := jPP) (jcond (P := jPP) (Or.inr jck_146) (Or.inr jck_147)) (jcond (P := jPP) (Or.inr jck_148) (Or.inr jck_149))))) (jcond (P := jPP) (jcond (P := jPP) (jcond (P := jPP) (jcond (P := jPP) (Or.inr jck_150) (Or.inr jck_151)) (jcond (P := jPP) (Or.inr jck_152) (Or.inr jck_153))) (jcond (P := jPP) (jcond (P := jPP) (Or.inr jck_154) (Or.inr jck_155)) (jcond (P := jPP) (Or.inr jck_156) (Or.inr jck_157)))) (jcond (P := jPP) (jcond (P := jPP) (jcond (P := jPP) (Or.inr jck_158) (Or.inr jck_159)) (jcond (P := jPP) (Or.inr jck_160) (Or.inr jck_161))) (jcond (P := jPP) (jcond (P := jPP) (Or.inr jck_162) (Or.inr jck_163)) (jcond (P := jPP) (Or.inr jck_164) (jcond (P := jPP) (Or.inr jck_165) (Or.inr jck_166))))))) (jcond (P := jPP) (jcond (P := jPP) (jcond (P := jPP) (jcond (P := jPP) (jcond (P := jPP) (Or.inr jck_167) (Or.inr jck_168)) (jcond (P := jPP) (Or.inr jck_169) (Or.inr jck_170))) (jcond (P := jPP) (jcond (P := jPP) (Or.inr jck_171) (Or.inr jck_172)) (jcond (P := jPP) (Or.inr jck_173) (Or.inr jck_174)))) (jcond (P := jPP) (jcond (P := jPP) (jcond (P := jPP) (Or.inr jck_175) (Or.inr jck_176)) (jcond (P := jPP) (Or.inr jck_177) (Or.inr jck_178))) (jcond (P := jPP) (jcond (P := jPP) (Or.inr jck_179) (Or.inr jck_180)) (jcond (P := jPP) (Or.inr jck_181) (jcond (P := jPP) (Or.inr jck_182) (Or.inr jck_183)))))) (jcond (P := jPP) (jcond (P := jPP) (jcond (P := jPP) (jcond (P := jPP) (Or.inr jck_184) (Or.inr jck_185)) (jcond (P := jPP) (Or.inr jck_186) (Or.inr jck_187))) (jcond (P := jPP) (jcond (P := jPP) (Or.inr jck_188) (Or.inr jck_189)) (jcond (P := jPP) (Or.inr jck_190) (Or.inr jck_191)))) (jcond (P := jPP) (jcond (P := jPP) (jcond (P := jPP) (Or.inr jck_192) (Or.inr jck_193)) (jcond (P := jPP) (Or.inr jck_194) (Or.inr jck_195))) (jcond (P := jPP) (jcond (P := jPP) (Or.inr jck_196) (Or.inr jck_197)) (jcond (P := jPP) (Or.inr jck_198) (jcond (P := jPP) (Or.inr jck_199) (Or.inr jck_200)))))))) (jcond (P := jPP) (jcond (P := jPP) (jcond (P := jPP) (jcond (P := jPP) (jcond (P := jPP) (jcond (P := jPP) (Or.inr jck_201) (Or.inr jck_202)) (jcond (P := jPP) (Or.inr jck_203) (Or.inr jck_204))) (jcond (P := jPP) (jcond (P := jPP) (Or.inr jck_205) (Or.inr jck_206)) (jcond (P := jPP) (Or.inr jck_207) (Or.inr jck_208)))) (jcond (P := jPP) (jcond (P := jPP) (jcond (P := jPP) (Or.inr jck_209) (Or.inr jck_210)) (jcond (P := jPP) (Or.inr jck_211) (Or.inr jck_212))) (jcond (P := jPP) (jcond (P := jPP) (Or.inr jck_213) (Or.inr jck_214)) (jcond (P := jPP) (Or.inr jck_215) (Or.inr jck_216))))) (jcond (P := jPP) (jcond (P := jPP) (jcond (P := jPP) (jcond (P := jPP) (Or.inr jck_217) (Or.inr jck_218)) (jcond (P := jPP) (Or.inr jck_219) (Or.inr jck_220))) (jcond (P := jPP) (jcond (P := jPP) (Or.inr jck_221) (Or.inr jck_222)) (jcond (P := jPP) (Or.inr jck_223) (Or.inr jck_224)))) (jcond (P := jPP) (jcond (P := jPP) (jcond (P := jPP) (Or.inr jck_225) (Or.inr jck_226)) (jcond (P := jPP) (Or.inr jck_227) (Or.inr jck_228))) (jcond (P := jPP) (jcond (P := jPP) (Or.inr jck_229) (Or.inr jck_230)) (jcond (P := jPP) (Or.inr jck_231) (jcond (P := jPP) (Or.inr jck_232) (Or.inr jck_233))))))) (jcond (P := jPP) (jcond (P := jPP) (jcond (P := jPP) (jcond (P := jPP) (jcond (P := jPP) (Or.inr jck_234) (Or.inr jck_235)) (jcond (P := jPP) (Or.inr jck_236) (Or.inr jck_237))) (jcond (P := jPP) (jcond (P := jPP) (Or.inr jck_238) (Or.inr jck_239)) (jcond (P := jPP) (Or.inr jck_240) (Or.inr jck_241)))) (jcond (P := jPP) (jcond (P := jPP) (jcond (P := jPP) (Or.inr jck_242) (Or.inr jck_243)) (jcond (P := jPP) (Or.inr jck_244) (Or.inr jck_245))) (jcond (P := jPP) (jcond (P := jPP) (Or.inr jck_246) (Or.inr jck_247)) (jcond (P := jPP) (Or.inr jck_248) (jcond (P := jPP) (Or.inr jck_249) (Or.inr jck_250)))))) (jcond (P := jPP) (jcond (P := jPP) (jcond (P := jPP) (jcond (P := jPP) (Or.inr jck_251) (Or.inr jck_252)) (jcond (P := jPP) (Or.inr jck_253) (Or.inr jck_254))) (jcond (P := jPP) (jcond (P := jPP) (Or.inr jck_255) (Or.inr jck_256)) (jcond (P := jPP) (Or.inr jck_257) (Or.inr jck_258)))) (jcond (P := jPP) (jcond (P := jPP) (jcond (P := jPP) (Or.inr jck_259) (Or.inr jck_260)) (jcond (P := jPP) (Or.inr jck_261) (Or.inr jck_262))) (jcond (P := jPP) (jcond (P := jPP) (Or.inr jck_263) (Or.inl rfl)) (jcond (P := jPP) (Or.inl rfl) (jcond (P := jPP) (Or.inr jck_266) (Or.inr jck_no))))))))))
