theorem jlt_0 : ∀ pc e, jI_0 pc = some e → pc < 31 := fun _ _ h => jlt h
set_option maxRecDepth 100000 in
theorem jck_0 : jOk jD_0 := jOk_of (n := 31) (by decide +kernel) (by decide +kernel) jlt_0
theorem jlt_1 : ∀ pc e, jI_1 pc = some e → pc < 72 := fun _ _ h => jlt h
set_option maxRecDepth 100000 in
theorem jck_1 : jOk jD_1 := jOk_of (n := 72) (by decide +kernel) (by decide +kernel) jlt_1
theorem jlt_2 : ∀ pc e, jI_2 pc = some e → pc < 61 := fun _ _ h => jlt h
set_option maxRecDepth 100000 in
theorem jck_2 : jOk jD_2 := jOk_of (n := 61) (by decide +kernel) (by decide +kernel) jlt_2
theorem jlt_3 : ∀ pc e, jI_3 pc = some e → pc < 18 := fun _ _ h => jlt h
set_option maxRecDepth 100000 in
theorem jck_3 : jOk jD_3 := jOk_of (n := 18) (by decide +kernel) (by decide +kernel) jlt_3
theorem jlt_4 : ∀ pc e, jI_4 pc = some e → pc < 38 := fun _ _ h => jlt h
set_option maxRecDepth 100000 in
theorem jck_4 : jOk jD_4 := jOk_of (n := 38) (by decide +kernel) (by decide +kernel) jlt_4
theorem jlt_5 : ∀ pc e, jI_5 pc = some e → pc < 33 := fun _ _ h => jlt h
set_option maxRecDepth 100000 in
theorem jck_5 : jOk jD_5 := jOk_of (n := 33) (by decide +kernel) (by decide +kernel) jlt_5
theorem jlt_6 : ∀ pc e, jI_6 pc = some e → pc < 62 := fun _ _ h => jlt h
set_option maxRecDepth 100000 in
theorem jck_6 : jOk jD_6 := jOk_of (n := 62) (by decide +kernel) (by decide +kernel) jlt_6
theorem jlt_7 : ∀ pc e, jI_7 pc = some e → pc < 76 := fun _ _ h => jlt h
set_option maxRecDepth 100000 in
theorem jck_7 : jOk jD_7 := jOk_of (n := 76) (by decide +kernel) (by decide +kernel) jlt_7
theorem jlt_8 : ∀ pc e, jI_8 pc = some e → pc < 55 := fun _ _ h => jlt h
set_option maxRecDepth 100000 in
theorem jck_8 : jOk jD_8 := jOk_of (n := 55) (by decide +kernel) (by decide +kernel) jlt_8
theorem jlt_9 : ∀ pc e, jI_9 pc = some e → pc < 60 := fun _ _ h => jlt h
set_option maxRecDepth 100000 in
theorem jck_9 : jOk jD_9 := jOk_of (n := 60) (by decide +kernel) (by decide +kernel) jlt_9
theorem jlt_10 : ∀ pc e, jI_10 pc = some e → pc < 21 := fun _ _ h => jlt h
set_option maxRecDepth 100000 in
theorem jck_10 : jOk jD_10 := jOk_of (n := 21) (by decide +kernel) (by decide +kernel) jlt_10
theorem jlt_11 : ∀ pc e, jI_11 pc = some e → pc < 16 := fun _ _ h => jlt h
set_option maxRecDepth 100000 in
theorem jck_11 : jOk jD_11 := jOk_of (n := 16) (by decide +kernel) (by decide +kernel) jlt_11
theorem jlt_12 : ∀ pc e, jI_12 pc = some e → pc < 52 := fun _ _ h => jlt h
set_option maxRecDepth 100000 in
theorem jck_12 : jOk jD_12 := jOk_of (n := 52) (by decide +kernel) (by decide +kernel) jlt_12
theorem jlt_13 : ∀ pc e, jI_13 pc = some e → pc < 18 := fun _ _ h => jlt h
set_option maxRecDepth 100000 in
theorem jck_13 : jOk jD_13 := jOk_of (n := 18) (by decide +kernel) (by decide +kernel) jlt_13
theorem jlt_14 : ∀ pc e, jI_14 pc = some e → pc < 19 := fun _ _ h => jlt h
set_option maxRecDepth 100000 in
theorem jck_14 : jOk jD_14 := jOk_of (n := 19) (by decide +kernel) (by decide +kernel) jlt_14
theorem jlt_15 : ∀ pc e, jI_15 pc = some e → pc < 39 := fun _ _ h => jlt h
set_option maxRecDepth 100000 in
theorem jck_15 : jOk jD_15 := jOk_of (n := 39) (by decide +kernel) (by decide +kernel) jlt_15
theorem jlt_16 : ∀ pc e, jI_16 pc = some e → pc < 29 := fun _ _ h => jlt h
set_option maxRecDepth 100000 in
theorem jck_16 : jOk jD_16 := jOk_of (n := 29) (by decide +kernel) (by decide +kernel) jlt_16
theorem jlt_17 : ∀ pc e, jI_17 pc = some e → pc < 43 := fun _ _ h => jlt h
set_option maxRecDepth 100000 in
theorem jck_17 : jOk jD_17 := jOk_of (n := 43) (by decide +kernel) (by decide +kernel) jlt_17
theorem jlt_18 : ∀ pc e, jI_18 pc = some e → pc < 125 := fun _ _ h => jlt h
set_option maxRecDepth 100000 in
theorem jck_18 : jOk jD_18 := jOk_of (n := 125) (by decide +kernel) (by decide +kernel) jlt_18
theorem jlt_19 : ∀ pc e, jI_19 pc = some e → pc < 300 := fun _ _ h => jlt h
set_option maxRecDepth 100000 in
theorem jck_19 : jOk jD_19 := jOk_of (n := 300) (by decide +kernel) (by decide +kernel) jlt_19
theorem jlt_20 : ∀ pc e, jI_20 pc = some e → pc < 37 := fun _ _ h => jlt h
set_option maxRecDepth 100000 in
theorem jck_20 : jOk jD_20 := jOk_of (n := 37) (by decide +kernel) (by decide +kernel) jlt_20
theorem jlt_21 : ∀ pc e, jI_21 pc = some e → pc < 73 := fun _ _ h => jlt h
set_option maxRecDepth 100000 in
theorem jck_21 : jOk jD_21 := jOk_of (n := 73) (by decide +kernel) (by decide +kernel) jlt_21
theorem jlt_22 : ∀ pc e, jI_22 pc = some e → pc < 21 := fun _ _ h => jlt h
set_option maxRecDepth 100000 in
theorem jck_22 : jOk jD_22 := jOk_of (n := 21) (by decide +kernel) (by decide +kernel) jlt_22
theorem jlt_23 : ∀ pc e, jI_23 pc = some e → pc < 25 := fun _ _ h => jlt h
set_option maxRecDepth 100000 in
theorem jck_23 : jOk jD_23 := jOk_of (n := 25) (by decide +kernel) (by decide +kernel) jlt_23
theorem jlt_24 : ∀ pc e, jI_24 pc = some e → pc < 67 := fun _ _ h => jlt h
set_option maxRecDepth 100000 in
theorem jck_24 : jOk jD_24 := jOk_of (n := 67) (by decide +kernel) (by decide +kernel) jlt_24
theorem jlt_25 : ∀ pc e, jI_25 pc = some e → pc < 35 := fun _ _ h => jlt h
set_option maxRecDepth 100000 in
theorem jck_25 : jOk jD_25 := jOk_of (n := 35) (by decide +kernel) (by decide +kernel) jlt_25
theorem jlt_26 : ∀ pc e, jI_26 pc = some e → pc < 57 := fun _ _ h => jlt h
set_option maxRecDepth 100000 in
theorem jck_26 : jOk jD_26 := jOk_of (n := 57) (by decide +kernel) (by decide +kernel) jlt_26
theorem jlt_27 : ∀ pc e, jI_27 pc = some e → pc < 22 := fun _ _ h => jlt h
set_option maxRecDepth 100000 in
theorem jck_27 : jOk jD_27 := jOk_of (n := 22) (by decide +kernel) (by decide +kernel) jlt_27
theorem jlt_28 : ∀ pc e, jI_28 pc = some e → pc < 64 := fun _ _ h => jlt h
set_option maxRecDepth 100000 in
theorem jck_28 : jOk jD_28 := jOk_of (n := 64) (by decide +kernel) (by decide +kernel) jlt_28
theorem jlt_29 : ∀ pc e, jI_29 pc = some e → pc < 69 := fun _ _ h => jlt h
set_option maxRecDepth 100000 in
theorem jck_29 : jOk jD_29 := jOk_of (n := 69) (by decide +kernel) (by decide +kernel) jlt_29
theorem jlt_30 : ∀ pc e, jI_30 pc = some e → pc < 15 := fun _ _ h => jlt h
set_option maxRecDepth 100000 in
theorem jck_30 : jOk jD_30 := jOk_of (n := 15) (by decide +kernel) (by decide +kernel) jlt_30
theorem jlt_31 : ∀ pc e, jI_31 pc = some e → pc < 79 := fun _ _ h => jlt h
set_option maxRecDepth 100000 in
theorem jck_31 : jOk jD_31 := jOk_of (n := 79) (by decide +kernel) (by decide +kernel) jlt_31
theorem jlt_32 : ∀ pc e, jI_32 pc = some e → pc < 140 := fun _ _ h => jlt h
set_option maxRecDepth 100000 in
theorem jck_32 : jOk jD_32 := jOk_of (n := 140) (by decide +kernel) (by decide +kernel) jlt_32
theorem jlt_33 : ∀ pc e, jI_33 pc = some e → pc < 118 := fun _ _ h => jlt h
set_option maxRecDepth 100000 in
theorem jck_33 : jOk jD_33 := jOk_of (n := 118) (by decide +kernel) (by decide +kernel) jlt_33
theorem jlt_34 : ∀ pc e, jI_34 pc = some e → pc < 45 := fun _ _ h => jlt h
set_option maxRecDepth 100000 in
theorem jck_34 : jOk jD_34 := jOk_of (n := 45) (by decide +kernel) (by decide +kernel) jlt_34
theorem jlt_35 : ∀ pc e, jI_35 pc = some e → pc < 37 := fun _ _ h => jlt h
set_option maxRecDepth 100000 in
theorem jck_35 : jOk jD_35 := jOk_of (n := 37) (by decide +kernel) (by decide +kernel) jlt_35
theorem jlt_36 : ∀ pc e, jI_36 pc = some e → pc < 60 := fun _ _ h => jlt h
set_option maxRecDepth 100000 in
theorem jck_36 : jOk jD_36 := jOk_of (n := 60) (by decide +kernel) (by decide +kernel) jlt_36
theorem jlt_37 : ∀ pc e, jI_37 pc = some e → pc < 83 := fun _ _ h => jlt h
set_option maxRecDepth 100000 in
theorem jck_37 : jOk jD_37 := jOk_of (n := 83) (by decide +kernel) (by decide +kernel) jlt_37
theorem jlt_38 : ∀ pc e, jI_38 pc = some e → pc < 68 := fun _ _ h => jlt h
set_option maxRecDepth 100000 in
theorem jck_38 : jOk jD_38 := jOk_of (n := 68) (by decide +kernel) (by decide +kernel) jlt_38
theorem jlt_39 : ∀ pc e, jI_39 pc = some e → pc < 54 := fun _ _ h => jlt h
set_option maxRecDepth 100000 in
theorem jck_39 : jOk jD_39 := jOk_of (n := 54) (by decide +kernel) (by decide +kernel) jlt_39
theorem jlt_40 : ∀ pc e, jI_40 pc = some e → pc < 98 := fun _ _ h => jlt h
set_option maxRecDepth 100000 in
theorem jck_40 : jOk jD_40 := jOk_of (n := 98) (by decide +kernel) (by decide +kernel) jlt_40
theorem jlt_41 : ∀ pc e, jI_41 pc = some e → pc < 173 := fun _ _ h => jlt h
set_option maxRecDepth 100000 in
theorem jck_41 : jOk jD_41 := jOk_of (n := 173) (by decide +kernel) (by decide +kernel) jlt_41
theorem jlt_42 : ∀ pc e, jI_42 pc = some e → pc < 62 := fun _ _ h => jlt h
set_option maxRecDepth 100000 in
theorem jck_42 : jOk jD_42 := jOk_of (n := 62) (by decide +kernel) (by decide +kernel) jlt_42
theorem jlt_43 : ∀ pc e, jI_43 pc = some e → pc < 32 := fun _ _ h => jlt h
set_option maxRecDepth 100000 in
theorem jck_43 : jOk jD_43 := jOk_of (n := 32) (by decide +kernel) (by decide +kernel) jlt_43
theorem jlt_44 : ∀ pc e, jI_44 pc = some e → pc < 33 := fun _ _ h => jlt h
set_option maxRecDepth 100000 in
theorem jck_44 : jOk jD_44 := jOk_of (n := 33) (by decide +kernel) (by decide +kernel) jlt_44
theorem jlt_45 : ∀ pc e, jI_45 pc = some e → pc < 74 := fun _ _ h => jlt h
set_option maxRecDepth 100000 in
theorem jck_45 : jOk jD_45 := jOk_of (n := 74) (by decide +kernel) (by decide +kernel) jlt_45
theorem jlt_46 : ∀ pc e, jI_46 pc = some e → pc < 104 := fun _ _ h => jlt h
set_option maxRecDepth 100000 in
theorem jck_46 : jOk jD_46 := jOk_of (n := 104) (by decide +kernel) (by decide +kernel) jlt_46
theorem jlt_47 : ∀ pc e, jI_47 pc = some e → pc < 87 := fun _ _ h => jlt h
set_option maxRecDepth 100000 in
theorem jck_47 : jOk jD_47 := jOk_of (n := 87) (by decide +kernel) (by decide +kernel) jlt_47
theorem jlt_48 : ∀ pc e, jI_48 pc = some e → pc < 114 := fun _ _ h => jlt h
set_option maxRecDepth 100000 in
theorem jck_48 : jOk jD_48 := jOk_of (n := 114) (by decide +kernel) (by decide +kernel) jlt_48
theorem jlt_49 : ∀ pc e, jI_49 pc = some e → pc < 181 := fun _ _ h => jlt h
set_option maxRecDepth 100000 in
theorem jck_49 : jOk jD_49 := jOk_of (n := 181) (by decide +kernel) (by decide +kernel) jlt_49
theorem jlt_50 : ∀ pc e, jI_50 pc = some e → pc < 33 := fun _ _ h => jlt h
set_option maxRecDepth 100000 in
theorem jck_50 : jOk jD_50 := jOk_of (n := 33) (by decide +kernel) (by decide +kernel) jlt_50
theorem jlt_51 : ∀ pc e, jI_51 pc = some e → pc < 29 := fun _ _ h => jlt h
set_option maxRecDepth 100000 in
theorem jck_51 : jOk jD_51 := jOk_of (n := 29) (by decide +kernel) (by decide +kernel) jlt_51
theorem jlt_52 : ∀ pc e, jI_52 pc = some e → pc < 34 := fun _ _ h => jlt h
set_option maxRecDepth 100000 in
theorem jck_52 : jOk jD_52 := jOk_of (n := 34) (by decide +kernel) (by decide +kernel) jlt_52
theorem jlt_53 : ∀ pc e, jI_53 pc = some e → pc < 179 := fun _ _ h => jlt h
set_option maxRecDepth 100000 in
theorem jck_53 : jOk jD_53 := jOk_of (n := 179) (by decide +kernel) (by decide +kernel) jlt_53
theorem jlt_54 : ∀ pc e, jI_54 pc = some e → pc < 94 := fun _ _ h => jlt h
set_option maxRecDepth 100000 in
theorem jck_54 : jOk jD_54 := jOk_of (n := 94) (by decide +kernel) (by decide +kernel) jlt_54
theorem jlt_55 : ∀ pc e, jI_55 pc = some e → pc < 37 := fun _ _ h => jlt h
set_option maxRecDepth 100000 in
theorem jck_55 : jOk jD_55 := jOk_of (n := 37) (by decide +kernel) (by decide +kernel) jlt_55
theorem jlt_56 : ∀ pc e, jI_56 pc = some e → pc < 54 := fun _ _ h => jlt h
set_option maxRecDepth 100000 in
theorem jck_56 : jOk jD_56 := jOk_of (n := 54) (by decide +kernel) (by decide +kernel) jlt_56
theorem jlt_57 : ∀ pc e, jI_57 pc = some e → pc < 18 := fun _ _ h => jlt h
set_option maxRecDepth 100000 in
theorem jck_57 : jOk jD_57 := jOk_of (n := 18) (by decide +kernel) (by decide +kernel) jlt_57
theorem jlt_58 : ∀ pc e, jI_58 pc = some e → pc < 79 := fun _ _ h => jlt h
set_option maxRecDepth 100000 in
theorem jck_58 : jOk jD_58 := jOk_of (n := 79) (by decide +kernel) (by decide +kernel) jlt_58
theorem jlt_59 : ∀ pc e, jI_59 pc = some e → pc < 41 := fun _ _ h => jlt h
set_option maxRecDepth 100000 in
theorem jck_59 : jOk jD_59 := jOk_of (n := 41) (by decide +kernel) (by decide +kernel) jlt_59
theorem jlt_60 : ∀ pc e, jI_60 pc = some e → pc < 32 := fun _ _ h => jlt h
set_option maxRecDepth 100000 in
theorem jck_60 : jOk jD_60 := jOk_of (n := 32) (by decide +kernel) (by decide +kernel) jlt_60
theorem jlt_61 : ∀ pc e, jI_61 pc = some e → pc < 113 := fun _ _ h => jlt h
set_option maxRecDepth 100000 in
theorem jck_61 : jOk jD_61 := jOk_of (n := 113) (by decide +kernel) (by decide +kernel) jlt_61
theorem jlt_62 : ∀ pc e, jI_62 pc = some e → pc < 37 := fun _ _ h => jlt h
set_option maxRecDepth 100000 in
theorem jck_62 : jOk jD_62 := jOk_of (n := 37) (by decide +kernel) (by decide +kernel) jlt_62
theorem jlt_63 : ∀ pc e, jI_63 pc = some e → pc < 18 := fun _ _ h => jlt h
set_option maxRecDepth 100000 in
theorem jck_63 : jOk jD_63 := jOk_of (n := 18) (by decide +kernel) (by decide +kernel) jlt_63
theorem jlt_64 : ∀ pc e, jI_64 pc = some e → pc < 49 := fun _ _ h => jlt h
set_option maxRecDepth 100000 in
theorem jck_64 : jOk jD_64 := jOk_of (n := 49) (by decide +kernel) (by decide +kernel) jlt_64
theorem jlt_65 : ∀ pc e, jI_65 pc = some e → pc < 19 := fun _ _ h => jlt h
set_option maxRecDepth 100000 in
theorem jck_65 : jOk jD_65 := jOk_of (n := 19) (by decide +kernel) (by decide +kernel) jlt_65
theorem jlt_66 : ∀ pc e, jI_66 pc = some e → pc < 64 := fun _ _ h => jlt h
set_option maxRecDepth 100000 in
theorem jck_66 : jOk jD_66 := jOk_of (n := 64) (by decide +kernel) (by decide +kernel) jlt_66
theorem jlt_67 : ∀ pc e, jI_67 pc = some e → pc < 55 := fun _ _ h => jlt h
set_option maxRecDepth 100000 in
theorem jck_67 : jOk jD_67 := jOk_of (n := 55) (by decide +kernel) (by decide +kernel) jlt_67
theorem jlt_68 : ∀ pc e, jI_68 pc = some e → pc < 16 := fun _ _ h => jlt h
set_option maxRecDepth 100000 in
theorem jck_68 : jOk jD_68 := jOk_of (n := 16) (by decide +kernel) (by decide +kernel) jlt_68
theorem jlt_69 : ∀ pc e, jI_69 pc = some e → pc < 25 := fun _ _ h => jlt h
set_option maxRecDepth 100000 in
theorem jck_69 : jOk jD_69 := jOk_of (n := 25) (by decide +kernel) (by decide +kernel) jlt_69
theorem jlt_70 : ∀ pc e, jI_70 pc = some e → pc < 24 := fun _ _ h => jlt h
set_option maxRecDepth 100000 in
theorem jck_70 : jOk jD_70 := jOk_of (n := 24) (by decide +kernel) (by decide +kernel) jlt_70
theorem jlt_71 : ∀ pc e, jI_71 pc = some e → pc < 23 := fun _ _ h => jlt h
set_option maxRecDepth 100000 in
theorem jck_71 : jOk jD_71 := jOk_of (n := 23) (by decide +kernel) (by decide +kernel) jlt_71
theorem jlt_72 : ∀ pc e, jI_72 pc = some e → pc < 26 := fun _ _ h => jlt h
set_option maxRecDepth 100000 in
theorem jck_72 : jOk jD_72 := jOk_of (n := 26) (by decide +kernel) (by decide +kernel) jlt_72
theorem jlt_73 : ∀ pc e, jI_73 pc = some e → pc < 53 := fun _ _ h => jlt h
set_option maxRecDepth 100000 in
theorem jck_73 : jOk jD_73 := jOk_of (n := 53) (by decide +kernel) (by decide +kernel) jlt_73
theorem jlt_74 : ∀ pc e, jI_74 pc = some e → pc < 101 := fun _ _ h => jlt h
set_option maxRecDepth 100000 in
theorem jck_74 : jOk jD_74 := jOk_of (n := 101) (by decide +kernel) (by decide +kernel) jlt_74
theorem jlt_75 : ∀ pc e, jI_75 pc = some e → pc < 36 := fun _ _ h => jlt h
set_option maxRecDepth 100000 in
theorem jck_75 : jOk jD_75 := jOk_of (n := 36) (by decide +kernel) (by decide +kernel) jlt_75
theorem jlt_76 : ∀ pc e, jI_76 pc = some e → pc < 50 := fun _ _ h => jlt h
set_option maxRecDepth 100000 in
theorem jck_76 : jOk jD_76 := jOk_of (n := 50) (by decide +kernel) (by decide +kernel) jlt_76
theorem jlt_77 : ∀ pc e, jI_77 pc = some e → pc < 22 := fun _ _ h => jlt h
set_option maxRecDepth 100000 in
theorem jck_77 : jOk jD_77 := jOk_of (n := 22) (by decide +kernel) (by decide +kernel) jlt_77
theorem jlt_78 : ∀ pc e, jI_78 pc = some e → pc < 28 := fun _ _ h => jlt h
set_option maxRecDepth 100000 in
theorem jck_78 : jOk jD_78 := jOk_of (n := 28) (by decide +kernel) (by decide +kernel) jlt_78
theorem jlt_79 : ∀ pc e, jI_79 pc = some e → pc < 60 := fun _ _ h => jlt h
set_option maxRecDepth 100000 in
theorem jck_79 : jOk jD_79 := jOk_of (n := 60) (by decide +kernel) (by decide +kernel) jlt_79
theorem jlt_80 : ∀ pc e, jI_80 pc = some e → pc < 96 := fun _ _ h => jlt h
set_option maxRecDepth 100000 in
theorem jck_80 : jOk jD_80 := jOk_of (n := 96) (by decide +kernel) (by decide +kernel) jlt_80
theorem jlt_81 : ∀ pc e, jI_81 pc = some e → pc < 20 := fun _ _ h => jlt h
set_option maxRecDepth 100000 in
theorem jck_81 : jOk jD_81 := jOk_of (n := 20) (by decide +kernel) (by decide +kernel) jlt_81
theorem jlt_82 : ∀ pc e, jI_82 pc = some e → pc < 63 := fun _ _ h => jlt h
set_option maxRecDepth 100000 in
theorem jck_82 : jOk jD_82 := jOk_of (n := 63) (by decide +kernel) (by decide +kernel) jlt_82
theorem jlt_83 : ∀ pc e, jI_83 pc = some e → pc < 18 := fun _ _ h => jlt h
set_option maxRecDepth 100000 in
theorem jck_83 : jOk jD_83 := jOk_of (n := 18) (by decide +kernel) (by decide +kernel) jlt_83
theorem jlt_84 : ∀ pc e, jI_84 pc = some e → pc < 73 := fun _ _ h => jlt h
set_option maxRecDepth 100000 in
theorem jck_84 : jOk jD_84 := jOk_of (n := 73) (by decide +kernel) (by decide +kernel) jlt_84
theorem jlt_85 : ∀ pc e, jI_85 pc = some e → pc < 186 := fun _ _ h => jlt h
set_option maxRecDepth 100000 in
theorem jck_85 : jOk jD_85 := jOk_of (n := 186) (by decide +kernel) (by decide +kernel) jlt_85
theorem jlt_86 : ∀ pc e, jI_86 pc = some e → pc < 159 := fun _ _ h => jlt h
set_option maxRecDepth 100000 in
theorem jck_86 : jOk jD_86 := jOk_of (n := 159) (by decide +kernel) (by decide +kernel) jlt_86
theorem jlt_87 : ∀ pc e, jI_87 pc = some e → pc < 19 := fun _ _ h => jlt h
set_option maxRecDepth 100000 in
theorem jck_87 : jOk jD_87 := jOk_of (n := 19) (by decide +kernel) (by decide +kernel) jlt_87
theorem jlt_88 : ∀ pc e, jI_88 pc = some e → pc < 77 := fun _ _ h => jlt h
set_option maxRecDepth 100000 in
theorem jck_88 : jOk jD_88 := jOk_of (n := 77) (by decide +kernel) (by decide +kernel) jlt_88
theorem jlt_89 : ∀ pc e, jI_89 pc = some e → pc < 37 := fun _ _ h => jlt h
set_option maxRecDepth 100000 in
theorem jck_89 : jOk jD_89 := jOk_of (n := 37) (by decide +kernel) (by decide +kernel) jlt_89
theorem jlt_90 : ∀ pc e, jI_90 pc = some e → pc < 51 := fun _ _ h => jlt h
set_option maxRecDepth 100000 in
theorem jck_90 : jOk jD_90 := jOk_of (n := 51) (by decide +kernel) (by decide +kernel) jlt_90
theorem jlt_91 : ∀ pc e, jI_91 pc = some e → pc < 168 := fun _ _ h => jlt h
set_option maxRecDepth 100000 in
theorem jck_91 : jOk jD_91 := jOk_of (n := 168) (by decide +kernel) (by decide +kernel) jlt_91
theorem jlt_92 : ∀ pc e, jI_92 pc = some e → pc < 146 := fun _ _ h => jlt h
set_option maxRecDepth 100000 in
theorem jck_92 : jOk jD_92 := jOk_of (n := 146) (by decide +kernel) (by decide +kernel) jlt_92
theorem jlt_93 : ∀ pc e, jI_93 pc = some e → pc < 46 := fun _ _ h => jlt h
set_option maxRecDepth 100000 in
theorem jck_93 : jOk jD_93 := jOk_of (n := 46) (by decide +kernel) (by decide +kernel) jlt_93
theorem jlt_94 : ∀ pc e, jI_94 pc = some e → pc < 38 := fun _ _ h => jlt h
set_option maxRecDepth 100000 in
theorem jck_94 : jOk jD_94 := jOk_of (n := 38) (by decide +kernel) (by decide +kernel) jlt_94
theorem jlt_95 : ∀ pc e, jI_95 pc = some e → pc < 170 := fun _ _ h => jlt h
set_option maxRecDepth 100000 in
theorem jck_95 : jOk jD_95 := jOk_of (n := 170) (by decide +kernel) (by decide +kernel) jlt_95
theorem jlt_96 : ∀ pc e, jI_96 pc = some e → pc < 43 := fun _ _ h => jlt h
set_option maxRecDepth 100000 in
theorem jck_96 : jOk jD_96 := jOk_of (n := 43) (by decide +kernel) (by decide +kernel) jlt_96
theorem jlt_97 : ∀ pc e, jI_97 pc = some e → pc < 83 := fun _ _ h => jlt h
set_option maxRecDepth 100000 in
theorem jck_97 : jOk jD_97 := jOk_of (n := 83) (by decide +kernel) (by decide +kernel) jlt_97
theorem jlt_98 : ∀ pc e, jI_98 pc = some e → pc < 32 := fun _ _ h => jlt h
set_option maxRecDepth 100000 in
theorem jck_98 : jOk jD_98 := jOk_of (n := 32) (by decide +kernel) (by decide +kernel) jlt_98
theorem jlt_99 : ∀ pc e, jI_99 pc = some e → pc < 57 := fun _ _ h => jlt h
set_option maxRecDepth 100000 in
theorem jck_99 : jOk jD_99 := jOk_of (n := 57) (by decide +kernel) (by decide +kernel) jlt_99
theorem jlt_100 : ∀ pc e, jI_100 pc = some e → pc < 104 := fun _ _ h => jlt h
set_option maxRecDepth 100000 in
theorem jck_100 : jOk jD_100 := jOk_of (n := 104) (by decide +kernel) (by decide +kernel) jlt_100
theorem jlt_101 : ∀ pc e, jI_101 pc = some e → pc < 24 := fun _ _ h => jlt h
set_option maxRecDepth 100000 in
theorem jck_101 : jOk jD_101 := jOk_of (n := 24) (by decide +kernel) (by decide +kernel) jlt_101
theorem jlt_102 : ∀ pc e, jI_102 pc = some e → pc < 8 := fun _ _ h => jlt h
set_option maxRecDepth 100000 in
theorem jck_102 : jOk jD_102 := jOk_of (n := 8) (by decide +kernel) (by decide +kernel) jlt_102
theorem jlt_103 : ∀ pc e, jI_103 pc = some e → pc < 32 := fun _ _ h => jlt h
set_option maxRecDepth 100000 in
theorem jck_103 : jOk jD_103 := jOk_of (n := 32) (by decide +kernel) (by decide +kernel) jlt_103
theorem jlt_104 : ∀ pc e, jI_104 pc = some e → pc < 41 := fun _ _ h => jlt h
set_option maxRecDepth 100000 in
theorem jck_104 : jOk jD_104 := jOk_of (n := 41) (by decide +kernel) (by decide +kernel) jlt_104
theorem jlt_105 : ∀ pc e, jI_105 pc = some e → pc < 84 := fun _ _ h => jlt h
set_option maxRecDepth 100000 in
theorem jck_105 : jOk jD_105 := jOk_of (n := 84) (by decide +kernel) (by decide +kernel) jlt_105
theorem jlt_106 : ∀ pc e, jI_106 pc = some e → pc < 50 := fun _ _ h => jlt h
set_option maxRecDepth 100000 in
theorem jck_106 : jOk jD_106 := jOk_of (n := 50) (by decide +kernel) (by decide +kernel) jlt_106
theorem jlt_107 : ∀ pc e, jI_107 pc = some e → pc < 69 := fun _ _ h => jlt h
set_option maxRecDepth 100000 in
theorem jck_107 : jOk jD_107 := jOk_of (n := 69) (by decide +kernel) (by decide +kernel) jlt_107
theorem jlt_108 : ∀ pc e, jI_108 pc = some e → pc < 83 := fun _ _ h => jlt h
set_option maxRecDepth 100000 in
theorem jck_108 : jOk jD_108 := jOk_of (n := 83) (by decide +kernel) (by decide +kernel) jlt_108
theorem jlt_109 : ∀ pc e, jI_109 pc = some e → pc < 44 := fun _ _ h => jlt h
set_option maxRecDepth 100000 in
theorem jck_109 : jOk jD_109 := jOk_of (n := 44) (by decide +kernel) (by decide +kernel) jlt_109
theorem jlt_110 : ∀ pc e, jI_110 pc = some e → pc < 61 := fun _ _ h => jlt h
set_option maxRecDepth 100000 in
theorem jck_110 : jOk jD_110 := jOk_of (n := 61) (by decide +kernel) (by decide +kernel) jlt_110
theorem jlt_111 : ∀ pc e, jI_111 pc = some e → pc < 110 := fun _ _ h => jlt h
set_option maxRecDepth 100000 in
theorem jck_111 : jOk jD_111 := jOk_of (n := 110) (by decide +kernel) (by decide +kernel) jlt_111
theorem jlt_112 : ∀ pc e, jI_112 pc = some e → pc < 93 := fun _ _ h => jlt h
set_option maxRecDepth 100000 in
theorem jck_112 : jOk jD_112 := jOk_of (n := 93) (by decide +kernel) (by decide +kernel) jlt_112
theorem jlt_113 : ∀ pc e, jI_113 pc = some e → pc < 25 := fun _ _ h => jlt h
set_option maxRecDepth 100000 in
theorem jck_113 : jOk jD_113 := jOk_of (n := 25) (by decide +kernel) (by decide +kernel) jlt_113
theorem jlt_114 : ∀ pc e, jI_114 pc = some e → pc < 77 := fun _ _ h => jlt h
set_option maxRecDepth 100000 in
theorem jck_114 : jOk jD_114 := jOk_of (n := 77) (by decide +kernel) (by decide +kernel) jlt_114
theorem jlt_115 : ∀ pc e, jI_115 pc = some e → pc < 87 := fun _ _ h => jlt h
set_option maxRecDepth 100000 in
theorem jck_115 : jOk jD_115 := jOk_of (n := 87) (by decide +kernel) (by decide +kernel) jlt_115
theorem jlt_116 : ∀ pc e, jI_116 pc = some e → pc < 63 := fun _ _ h => jlt h
set_option maxRecDepth 100000 in
theorem jck_116 : jOk jD_116 := jOk_of (n := 63) (by decide +kernel) (by decide +kernel) jlt_116
theorem jlt_117 : ∀ pc e, jI_117 pc = some e → pc < 57 := fun _ _ h => jlt h
set_option maxRecDepth 100000 in
theorem jck_117 : jOk jD_117 := jOk_of (n := 57) (by decide +kernel) (by decide +kernel) jlt_117
theorem jlt_118 : ∀ pc e, jI_118 pc = some e → pc < 109 := fun _ _ h => jlt h
set_option maxRecDepth 100000 in
theorem jck_118 : jOk jD_118 := jOk_of (n := 109) (by decide +kernel) (by decide +kernel) jlt_118
theorem jlt_119 : ∀ pc e, jI_119 pc = some e → pc < 25 := fun _ _ h => jlt h
set_option maxRecDepth 100000 in
theorem jck_119 : jOk jD_119 := jOk_of (n := 25) (by decide +kernel) (by decide +kernel) jlt_119
theorem jlt_120 : ∀ pc e, jI_120 pc = some e → pc < 31 := fun _ _ h => jlt h
set_option maxRecDepth 100000 in
theorem jck_120 : jOk jD_120 := jOk_of (n := 31) (by decide +kernel) (by decide +kernel) jlt_120
theorem jlt_121 : ∀ pc e, jI_121 pc = some e → pc < 60 := fun _ _ h => jlt h
set_option maxRecDepth 100000 in
theorem jck_121 : jOk jD_121 := jOk_of (n := 60) (by decide +kernel) (by decide +kernel) jlt_121
theorem jlt_122 : ∀ pc e, jI_122 pc = some e → pc < 94 := fun _ _ h => jlt h
set_option maxRecDepth 100000 in
theorem jck_122 : jOk jD_122 := jOk_of (n := 94) (by decide +kernel) (by decide +kernel) jlt_122
theorem jlt_123 : ∀ pc e, jI_123 pc = some e → pc < 94 := fun _ _ h => jlt h
set_option maxRecDepth 100000 in
theorem jck_123 : jOk jD_123 := jOk_of (n := 94) (by decide +kernel) (by decide +kernel) jlt_123
theorem jlt_124 : ∀ pc e, jI_124 pc = some e → pc < 91 := fun _ _ h => jlt h
set_option maxRecDepth 100000 in
theorem jck_124 : jOk jD_124 := jOk_of (n := 91) (by decide +kernel) (by decide +kernel) jlt_124
theorem jlt_125 : ∀ pc e, jI_125 pc = some e → pc < 20 := fun _ _ h => jlt h
set_option maxRecDepth 100000 in
theorem jck_125 : jOk jD_125 := jOk_of (n := 20) (by decide +kernel) (by decide +kernel) jlt_125
theorem jlt_126 : ∀ pc e, jI_126 pc = some e → pc < 23 := fun _ _ h => jlt h
set_option maxRecDepth 100000 in
theorem jck_126 : jOk jD_126 := jOk_of (n := 23) (by decide +kernel) (by decide +kernel) jlt_126
theorem jlt_127 : ∀ pc e, jI_127 pc = some e → pc < 12 := fun _ _ h => jlt h
set_option maxRecDepth 100000 in
theorem jck_127 : jOk jD_127 := jOk_of (n := 12) (by decide +kernel) (by decide +kernel) jlt_127
theorem jlt_128 : ∀ pc e, jI_128 pc = some e → pc < 12 := fun _ _ h => jlt h
set_option maxRecDepth 100000 in
theorem jck_128 : jOk jD_128 := jOk_of (n := 12) (by decide +kernel) (by decide +kernel) jlt_128
theorem jlt_129 : ∀ pc e, jI_129 pc = some e → pc < 60 := fun _ _ h => jlt h
set_option maxRecDepth 100000 in
theorem jck_129 : jOk jD_129 := jOk_of (n := 60) (by decide +kernel) (by decide +kernel) jlt_129
theorem jlt_130 : ∀ pc e, jI_130 pc = some e → pc < 70 := fun _ _ h => jlt h
set_option maxRecDepth 100000 in
theorem jck_130 : jOk jD_130 := jOk_of (n := 70) (by decide +kernel) (by decide +kernel) jlt_130
theorem jlt_131 : ∀ pc e, jI_131 pc = some e → pc < 20 := fun _ _ h => jlt h
set_option maxRecDepth 100000 in
theorem jck_131 : jOk jD_131 := jOk_of (n := 20) (by decide +kernel) (by decide +kernel) jlt_131
theorem jlt_132 : ∀ pc e, jI_132 pc = some e → pc < 11 := fun _ _ h => jlt h
set_option maxRecDepth 100000 in
theorem jck_132 : jOk jD_132 := jOk_of (n := 11) (by decide +kernel) (by decide +kernel) jlt_132
theorem jlt_133 : ∀ pc e, jI_133 pc = some e → pc < 9 := fun _ _ h => jlt h
set_option maxRecDepth 100000 in
theorem jck_133 : jOk jD_133 := jOk_of (n := 9) (by decide +kernel) (by decide +kernel) jlt_133
theorem jlt_134 : ∀ pc e, jI_134 pc = some e → pc < 50 := fun _ _ h => jlt h
set_option maxRecDepth 100000 in
theorem jck_134 : jOk jD_134 := jOk_of (n := 50) (by decide +kernel) (by decide +kernel) jlt_134
theorem jlt_135 : ∀ pc e, jI_135 pc = some e → pc < 47 := fun _ _ h => jlt h
set_option maxRecDepth 100000 in
theorem jck_135 : jOk jD_135 := jOk_of (n := 47) (by decide +kernel) (by decide +kernel) jlt_135
theorem jlt_136 : ∀ pc e, jI_136 pc = some e → pc < 31 := fun _ _ h => jlt h
set_option maxRecDepth 100000 in
theorem jck_136 : jOk jD_136 := jOk_of (n := 31) (by decide +kernel) (by decide +kernel) jlt_136
theorem jlt_137 : ∀ pc e, jI_137 pc = some e → pc < 28 := fun _ _ h => jlt h
set_option maxRecDepth 100000 in
theorem jck_137 : jOk jD_137 := jOk_of (n := 28) (by decide +kernel) (by decide +kernel) jlt_137
theorem jlt_138 : ∀ pc e, jI_138 pc = some e → pc < 53 := fun _ _ h => jlt h
set_option maxRecDepth 100000 in
theorem jck_138 : jOk jD_138 := jOk_of (n := 53) (by decide +kernel) (by decide +kernel) jlt_138
theorem jlt_139 : ∀ pc e, jI_139 pc = some e → pc < 81 := fun _ _ h => jlt h
set_option maxRecDepth 100000 in
theorem jck_139 : jOk jD_139 := jOk_of (n := 81) (by decide +kernel) (by decide +kernel) jlt_139
theorem jlt_140 : ∀ pc e, jI_140 pc = some e → pc < 90 := fun _ _ h => jlt h
set_option maxRecDepth 100000 in
theorem jck_140 : jOk jD_140 := jOk_of (n := 90) (by decide +kernel) (by decide +kernel) jlt_140
theorem jlt_141 : ∀ pc e, jI_141 pc = some e → pc < 16 := fun _ _ h => jlt h
set_option maxRecDepth 100000 in
theorem jck_141 : jOk jD_141 := jOk_of (n := 16) (by decide +kernel) (by decide +kernel) jlt_141
theorem jlt_142 : ∀ pc e, jI_142 pc = some e → pc < 16 := fun _ _ h => jlt h
set_option maxRecDepth 100000 in
theorem jck_142 : jOk jD_142 := jOk_of (n := 16) (by decide +kernel) (by decide +kernel) jlt_142
theorem jlt_143 : ∀ pc e, jI_143 pc = some e → pc < 50 := fun _ _ h => jlt h
set_option maxRecDepth 100000 in
theorem jck_143 : jOk jD_143 := jOk_of (n := 50) (by decide +kernel) (by decide +kernel) jlt_143
theorem jlt_144 : ∀ pc e, jI_144 pc = some e → pc < 38 := fun _ _ h => jlt h
set_option maxRecDepth 100000 in
theorem jck_144 : jOk jD_144 := jOk_of (n := 38) (by decide +kernel) (by decide +kernel) jlt_144
theorem jlt_145 : ∀ pc e, jI_145 pc = some e → pc < 14 := fun _ _ h => jlt h
set_option maxRecDepth 100000 in
theorem jck_145 : jOk jD_145 := jOk_of (n := 14) (by decide +kernel) (by decide +kernel) jlt_145
theorem jlt_146 : ∀ pc e, jI_146 pc = some e → pc < 31 := fun _ _ h => jlt h
set_option maxRecDepth 100000 in
theorem jck_146 : jOk jD_146 := jOk_of (n := 31) (by decide +kernel) (by decide +kernel) jlt_146
theorem jlt_147 : ∀ pc e, jI_147 pc = some e → pc < 35 := fun _ _ h => jlt h
set_option maxRecDepth 100000 in
theorem jck_147 : jOk jD_147 := jOk_of (n := 35) (by decide +kernel) (by decide +kernel) jlt_147
theorem jlt_148 : ∀ pc e, jI_148 pc = some e → pc < 29 := fun _ _ h => jlt h
set_option maxRecDepth 100000 in
theorem jck_148 : jOk jD_148 := jOk_of (n := 29) (by decide +kernel) (by decide +kernel) jlt_148
theorem jlt_149 : ∀ pc e, jI_149 pc = some e → pc < 54 := fun _ _ h => jlt h
set_option maxRecDepth 100000 in
theorem jck_149 : jOk jD_149 := jOk_of (n := 54) (by decide +kernel) (by decide +kernel) jlt_149
theorem jlt_150 : ∀ pc e, jI_150 pc = some e → pc < 22 := fun _ _ h => jlt h
set_option maxRecDepth 100000 in
theorem jck_150 : jOk jD_150 := jOk_of (n := 22) (by decide +kernel) (by decide +kernel) jlt_150
theorem jlt_151 : ∀ pc e, jI_151 pc = some e → pc < 31 := fun _ _ h => jlt h
set_option maxRecDepth 100000 in
theorem jck_151 : jOk jD_151 := jOk_of (n := 31) (by decide +kernel) (by decide +kernel) jlt_151
theorem jlt_152 : ∀ pc e, jI_152 pc = some e → pc < 7 := fun _ _ h => jlt h
set_option maxRecDepth 100000 in
theorem jck_152 : jOk jD_152 := jOk_of (n := 7) (by decide +kernel) (by decide +kernel) jlt_152
theorem jlt_153 : ∀ pc e, jI_153 pc = some e → pc < 5 := fun _ _ h => jlt h
set_option maxRecDepth 100000 in
theorem jck_153 : jOk jD_153 := jOk_of (n := 5) (by decide +kernel) (by decide +kernel) jlt_153
theorem jlt_154 : ∀ pc e, jI_154 pc = some e → pc < 128 := fun _ _ h => jlt h
set_option maxRecDepth 100000 in
theorem jck_154 : jOk jD_154 := jOk_of (n := 128) (by decide +kernel) (by decide +kernel) jlt_154
theorem jlt_155 : ∀ pc e, jI_155 pc = some e → pc < 35 := fun _ _ h => jlt h
set_option maxRecDepth 100000 in
theorem jck_155 : jOk jD_155 := jOk_of (n := 35) (by decide +kernel) (by decide +kernel) jlt_155
theorem jlt_156 : ∀ pc e, jI_156 pc = some e → pc < 31 := fun _ _ h => jlt h
set_option maxRecDepth 100000 in
theorem jck_156 : jOk jD_156 := jOk_of (n := 31) (by decide +kernel) (by decide +kernel) jlt_156
theorem jlt_157 : ∀ pc e, jI_157 pc = some e → pc < 80 := fun _ _ h => jlt h
set_option maxRecDepth 100000 in
theorem jck_157 : jOk jD_157 := jOk_of (n := 80) (by decide +kernel) (by decide +kernel) jlt_157
theorem jlt_158 : ∀ pc e, jI_158 pc = some e → pc < 45 := fun _ _ h => jlt h
set_option maxRecDepth 100000 in
theorem jck_158 : jOk jD_158 := jOk_of (n := 45) (by decide +kernel) (by decide +kernel) jlt_158
theorem jlt_159 : ∀ pc e, jI_159 pc = some e → pc < 138 := fun _ _ h => jlt h
set_option maxRecDepth 100000 in
theorem jck_159 : jOk jD_159 := jOk_of (n := 138) (by decide +kernel) (by decide +kernel) jlt_159
theorem jlt_160 : ∀ pc e, jI_160 pc = some e → pc < 108 := fun _ _ h => jlt h
set_option maxRecDepth 100000 in
theorem jck_160 : jOk jD_160 := jOk_of (n := 108) (by decide +kernel) (by decide +kernel) jlt_160
theorem jlt_161 : ∀ pc e, jI_161 pc = some e → pc < 133 := fun _ _ h => jlt h
set_option maxRecDepth 100000 in
theorem jck_161 : jOk jD_161 := jOk_of (n := 133) (by decide +kernel) (by decide +kernel) jlt_161
theorem jlt_162 : ∀ pc e, jI_162 pc = some e → pc < 302 := fun _ _ h => jlt h
set_option maxRecDepth 100000 in
theorem jck_162 : jOk jD_162 := jOk_of (n := 302) (by decide +kernel) (by decide +kernel) jlt_162
theorem jlt_163 : ∀ pc e, jI_163 pc = some e → pc < 16 := fun _ _ h => jlt h
set_option maxRecDepth 100000 in
theorem jck_163 : jOk jD_163 := jOk_of (n := 16) (by decide +kernel) (by decide +kernel) jlt_163
theorem jlt_164 : ∀ pc e, jI_164 pc = some e → pc < 12 := fun _ _ h => jlt h
set_option maxRecDepth 100000 in
theorem jck_164 : jOk jD_164 := jOk_of (n := 12) (by decide +kernel) (by decide +kernel) jlt_164
theorem jlt_165 : ∀ pc e, jI_165 pc = some e → pc < 12 := fun _ _ h => jlt h
set_option maxRecDepth 100000 in
theorem jck_165 : jOk jD_165 := jOk_of (n := 12) (by decide +kernel) (by decide +kernel) jlt_165
theorem jlt_166 : ∀ pc e, jI_166 pc = some e → pc < 12 := fun _ _ h => jlt h
set_option maxRecDepth 100000 in
theorem jck_166 : jOk jD_166 := jOk_of (n := 12) (by decide +kernel) (by decide +kernel) jlt_166
theorem jlt_167 : ∀ pc e, jI_167 pc = some e → pc < 8 := fun _ _ h => jlt h
set_option maxRecDepth 100000 in
theorem jck_167 : jOk jD_167 := jOk_of (n := 8) (by decide +kernel) (by decide +kernel) jlt_167
theorem jlt_168 : ∀ pc e, jI_168 pc = some e → pc < 33 := fun _ _ h => jlt h
set_option maxRecDepth 100000 in
theorem jck_168 : jOk jD_168 := jOk_of (n := 33) (by decide +kernel) (by decide +kernel) jlt_168
theorem jlt_169 : ∀ pc e, jI_169 pc = some e → pc < 7 := fun _ _ h => jlt h
set_option maxRecDepth 100000 in
theorem jck_169 : jOk jD_169 := jOk_of (n := 7) (by decide +kernel) (by decide +kernel) jlt_169
theorem jlt_170 : ∀ pc e, jI_170 pc = some e → pc < 12 := fun _ _ h => jlt h
set_option maxRecDepth 100000 in
theorem jck_170 : jOk jD_170 := jOk_of (n := 12) (by decide +kernel) (by decide +kernel) jlt_170
theorem jlt_171 : ∀ pc e, jI_171 pc = some e → pc < 24 := fun _ _ h => jlt h
set_option maxRecDepth 100000 in
theorem jck_171 : jOk jD_171 := jOk_of (n := 24) (by decide +kernel) (by decide +kernel) jlt_171
theorem jlt_172 : ∀ pc e, jI_172 pc = some e → pc < 37 := fun _ _ h => jlt h
set_option maxRecDepth 100000 in
theorem jck_172 : jOk jD_172 := jOk_of (n := 37) (by decide +kernel) (by decide +kernel) jlt_172
theorem jlt_173 : ∀ pc e, jI_173 pc = some e → pc < 43 := fun _ _ h => jlt h
set_option maxRecDepth 100000 in
theorem jck_173 : jOk jD_173 := jOk_of (n := 43) (by decide +kernel) (by decide +kernel) jlt_173
theorem jlt_174 : ∀ pc e, jI_174 pc = some e → pc < 64 := fun _ _ h => jlt h
set_option maxRecDepth 100000 in
theorem jck_174 : jOk jD_174 := jOk_of (n := 64) (by decide +kernel) (by decide +kernel) jlt_174
theorem jlt_175 : ∀ pc e, jI_175 pc = some e → pc < 51 := fun _ _ h => jlt h
set_option maxRecDepth 100000 in
theorem jck_175 : jOk jD_175 := jOk_of (n := 51) (by decide +kernel) (by decide +kernel) jlt_175
theorem jlt_176 : ∀ pc e, jI_176 pc = some e → pc < 252 := fun _ _ h => jlt h
set_option maxRecDepth 100000 in
theorem jck_176 : jOk jD_176 := jOk_of (n := 252) (by decide +kernel) (by decide +kernel) jlt_176
theorem jlt_177 : ∀ pc e, jI_177 pc = some e → pc < 105 := fun _ _ h => jlt h
set_option maxRecDepth 100000 in
theorem jck_177 : jOk jD_177 := jOk_of (n := 105) (by decide +kernel) (by decide +kernel) jlt_177
theorem jlt_178 : ∀ pc e, jI_178 pc = some e → pc < 40 := fun _ _ h => jlt h
set_option maxRecDepth 100000 in
theorem jck_178 : jOk jD_178 := jOk_of (n := 40) (by decide +kernel) (by decide +kernel) jlt_178
theorem jlt_179 : ∀ pc e, jI_179 pc = some e → pc < 89 := fun _ _ h => jlt h
set_option maxRecDepth 100000 in
theorem jck_179 : jOk jD_179 := jOk_of (n := 89) (by decide +kernel) (by decide +kernel) jlt_179
theorem jlt_180 : ∀ pc e, jI_180 pc = some e → pc < 78 := fun _ _ h => jlt h
set_option maxRecDepth 100000 in
theorem jck_180 : jOk jD_180 := jOk_of (n := 78) (by decide +kernel) (by decide +kernel) jlt_180
theorem jlt_181 : ∀ pc e, jI_181 pc = some e → pc < 84 := fun _ _ h => jlt h
set_option maxRecDepth 100000 in
theorem jck_181 : jOk jD_181 := jOk_of (n := 84) (by decide +kernel) (by decide +kernel) jlt_181
theorem jlt_182 : ∀ pc e, jI_182 pc = some e → pc < 173 := fun _ _ h => jlt h
set_option maxRecDepth 100000 in
theorem jck_182 : jOk jD_182 := jOk_of (n := 173) (by decide +kernel) (by decide +kernel) jlt_182
theorem jlt_183 : ∀ pc e, jI_183 pc = some e → pc < 84 := fun _ _ h => jlt h
set_option maxRecDepth 100000 in
theorem jck_183 : jOk jD_183 := jOk_of (n := 84) (by decide +kernel) (by decide +kernel) jlt_183
theorem jlt_184 : ∀ pc e, jI_184 pc = some e → pc < 66 := fun _ _ h => jlt h
set_option maxRecDepth 100000 in
theorem jck_184 : jOk jD_184 := jOk_of (n := 66) (by decide +kernel) (by decide +kernel) jlt_184
theorem jlt_185 : ∀ pc e, jI_185 pc = some e → pc < 75 := fun _ _ h => jlt h
set_option maxRecDepth 100000 in
theorem jck_185 : jOk jD_185 := jOk_of (n := 75) (by decide +kernel) (by decide +kernel) jlt_185
theorem jlt_186 : ∀ pc e, jI_186 pc = some e → pc < 47 := fun _ _ h => jlt h
set_option maxRecDepth 100000 in
theorem jck_186 : jOk jD_186 := jOk_of (n := 47) (by decide +kernel) (by decide +kernel) jlt_186
theorem jlt_187 : ∀ pc e, jI_187 pc = some e → pc < 25 := fun _ _ h => jlt h
set_option maxRecDepth 100000 in
theorem jck_187 : jOk jD_187 := jOk_of (n := 25) (by decide +kernel) (by decide +kernel) jlt_187
theorem jlt_188 : ∀ pc e, jI_188 pc = some e → pc < 22 := fun _ _ h => jlt h
set_option maxRecDepth 100000 in
theorem jck_188 : jOk jD_188 := jOk_of (n := 22) (by decide +kernel) (by decide +kernel) jlt_188
theorem jlt_189 : ∀ pc e, jI_189 pc = some e → pc < 19 := fun _ _ h => jlt h
set_option maxRecDepth 100000 in
theorem jck_189 : jOk jD_189 := jOk_of (n := 19) (by decide +kernel) (by decide +kernel) jlt_189
theorem jlt_190 : ∀ pc e, jI_190 pc = some e → pc < 24 := fun _ _ h => jlt h
set_option maxRecDepth 100000 in
theorem jck_190 : jOk jD_190 := jOk_of (n := 24) (by decide +kernel) (by decide +kernel) jlt_190
theorem jlt_191 : ∀ pc e, jI_191 pc = some e → pc < 74 := fun _ _ h => jlt h
set_option maxRecDepth 100000 in
theorem jck_191 : jOk jD_191 := jOk_of (n := 74) (by decide +kernel) (by decide +kernel) jlt_191
theorem jlt_192 : ∀ pc e, jI_192 pc = some e → pc < 226 := fun _ _ h => jlt h
set_option maxRecDepth 100000 in
theorem jck_192 : jOk jD_192 := jOk_of (n := 226) (by decide +kernel) (by decide +kernel) jlt_192
theorem jlt_193 : ∀ pc e, jI_193 pc = some e → pc < 87 := fun _ _ h => jlt h
set_option maxRecDepth 100000 in
theorem jck_193 : jOk jD_193 := jOk_of (n := 87) (by decide +kernel) (by decide +kernel) jlt_193
theorem jlt_194 : ∀ pc e, jI_194 pc = some e → pc < 73 := fun _ _ h => jlt h
set_option maxRecDepth 100000 in
theorem jck_194 : jOk jD_194 := jOk_of (n := 73) (by decide +kernel) (by decide +kernel) jlt_194
theorem jlt_195 : ∀ pc e, jI_195 pc = some e → pc < 90 := fun _ _ h => jlt h
set_option maxRecDepth 100000 in
theorem jck_195 : jOk jD_195 := jOk_of (n := 90) (by decide +kernel) (by decide +kernel) jlt_195
theorem jlt_196 : ∀ pc e, jI_196 pc = some e → pc < 39 := fun _ _ h => jlt h
set_option maxRecDepth 100000 in
theorem jck_196 : jOk jD_196 := jOk_of (n := 39) (by decide +kernel) (by decide +kernel) jlt_196
theorem jlt_197 : ∀ pc e, jI_197 pc = some e → pc < 39 := fun _ _ h => jlt h
set_option maxRecDepth 100000 in
theorem jck_197 : jOk jD_197 := jOk_of (n := 39) (by decide +kernel) (by decide +kernel) jlt_197
theorem jlt_198 : ∀ pc e, jI_198 pc = some e → pc < 93 := fun _ _ h => jlt h
set_option maxRecDepth 100000 in
theorem jck_198 : jOk jD_198 := jOk_of (n := 93) (by decide +kernel) (by decide +kernel) jlt_198
theorem jlt_199 : ∀ pc e, jI_199 pc = some e → pc < 179 := fun _ _ h => jlt h
set_option maxRecDepth 100000 in
theorem jck_199 : jOk jD_199 := jOk_of (n := 179) (by decide +kernel) (by decide +kernel) jlt_199
theorem jlt_200 : ∀ pc e, jI_200 pc = some e → pc < 149 := fun _ _ h => jlt h
set_option maxRecDepth 100000 in
theorem jck_200 : jOk jD_200 := jOk_of (n := 149) (by decide +kernel) (by decide +kernel) jlt_200
theorem jlt_201 : ∀ pc e, jI_201 pc = some e → pc < 252 := fun _ _ h => jlt h
set_option maxRecDepth 100000 in
theorem jck_201 : jOk jD_201 := jOk_of (n := 252) (by decide +kernel) (by decide +kernel) jlt_201
theorem jlt_202 : ∀ pc e, jI_202 pc = some e → pc < 143 := fun _ _ h => jlt h
set_option maxRecDepth 100000 in
theorem jck_202 : jOk jD_202 := jOk_of (n := 143) (by decide +kernel) (by decide +kernel) jlt_202
theorem jlt_203 : ∀ pc e, jI_203 pc = some e → pc < 50 := fun _ _ h => jlt h
set_option maxRecDepth 100000 in
theorem jck_203 : jOk jD_203 := jOk_of (n := 50) (by decide +kernel) (by decide +kernel) jlt_203
theorem jlt_204 : ∀ pc e, jI_204 pc = some e → pc < 58 := fun _ _ h => jlt h
set_option maxRecDepth 100000 in
theorem jck_204 : jOk jD_204 := jOk_of (n := 58) (by decide +kernel) (by decide +kernel) jlt_204
theorem jlt_205 : ∀ pc e, jI_205 pc = some e → pc < 74 := fun _ _ h => jlt h
set_option maxRecDepth 100000 in
theorem jck_205 : jOk jD_205 := jOk_of (n := 74) (by decide +kernel) (by decide +kernel) jlt_205
theorem jlt_206 : ∀ pc e, jI_206 pc = some e → pc < 38 := fun _ _ h => jlt h
set_option maxRecDepth 100000 in
theorem jck_206 : jOk jD_206 := jOk_of (n := 38) (by decide +kernel) (by decide +kernel) jlt_206
theorem jlt_207 : ∀ pc e, jI_207 pc = some e → pc < 35 := fun _ _ h => jlt h
set_option maxRecDepth 100000 in
theorem jck_207 : jOk jD_207 := jOk_of (n := 35) (by decide +kernel) (by decide +kernel) jlt_207
theorem jlt_208 : ∀ pc e, jI_208 pc = some e → pc < 37 := fun _ _ h => jlt h
set_option maxRecDepth 100000 in
theorem jck_208 : jOk jD_208 := jOk_of (n := 37) (by decide +kernel) (by decide +kernel) jlt_208
theorem jlt_209 : ∀ pc e, jI_209 pc = some e → pc < 54 := fun _ _ h => jlt h
set_option maxRecDepth 100000 in
theorem jck_209 : jOk jD_209 := jOk_of (n := 54) (by decide +kernel) (by decide +kernel) jlt_209
theorem jlt_210 : ∀ pc e, jI_210 pc = some e → pc < 211 := fun _ _ h => jlt h
set_option maxRecDepth 100000 in
theorem jck_210 : jOk jD_210 := jOk_of (n := 211) (by decide +kernel) (by decide +kernel) jlt_210
theorem jlt_211 : ∀ pc e, jI_211 pc = some e → pc < 10 := fun _ _ h => jlt h
set_option maxRecDepth 100000 in
theorem jck_211 : jOk jD_211 := jOk_of (n := 10) (by decide +kernel) (by decide +kernel) jlt_211
theorem jlt_212 : ∀ pc e, jI_212 pc = some e → pc < 61 := fun _ _ h => jlt h
set_option maxRecDepth 100000 in
theorem jck_212 : jOk jD_212 := jOk_of (n := 61) (by decide +kernel) (by decide +kernel) jlt_212
theorem jlt_213 : ∀ pc e, jI_213 pc = some e → pc < 50 := fun _ _ h => jlt h
set_option maxRecDepth 100000 in
theorem jck_213 : jOk jD_213 := jOk_of (n := 50) (by decide +kernel) (by decide +kernel) jlt_213
theorem jlt_214 : ∀ pc e, jI_214 pc = some e → pc < 152 := fun _ _ h => jlt h
set_option maxRecDepth 100000 in
theorem jck_214 : jOk jD_214 := jOk_of (n := 152) (by decide +kernel) (by decide +kernel) jlt_214
theorem jlt_215 : ∀ pc e, jI_215 pc = some e → pc < 32 := fun _ _ h => jlt h
set_option maxRecDepth 100000 in
theorem jck_215 : jOk jD_215 := jOk_of (n := 32) (by decide +kernel) (by decide +kernel) jlt_215
theorem jlt_216 : ∀ pc e, jI_216 pc = some e → pc < 117 := fun _ _ h => jlt h
set_option maxRecDepth 100000 in
theorem jck_216 : jOk jD_216 := jOk_of (n := 117) (by decide +kernel) (by decide +kernel) jlt_216
theorem jlt_217 : ∀ pc e, jI_217 pc = some e → pc < 188 := fun _ _ h => jlt h
set_option maxRecDepth 100000 in
theorem jck_217 : jOk jD_217 := jOk_of (n := 188) (by decide +kernel) (by decide +kernel) jlt_217
theorem jlt_218 : ∀ pc e, jI_218 pc = some e → pc < 111 := fun _ _ h => jlt h
set_option maxRecDepth 100000 in
theorem jck_218 : jOk jD_218 := jOk_of (n := 111) (by decide +kernel) (by decide +kernel) jlt_218
theorem jlt_219 : ∀ pc e, jI_219 pc = some e → pc < 184 := fun _ _ h => jlt h
set_option maxRecDepth 100000 in
theorem jck_219 : jOk jD_219 := jOk_of (n := 184) (by decide +kernel) (by decide +kernel) jlt_219
theorem jlt_220 : ∀ pc e, jI_220 pc = some e → pc < 123 := fun _ _ h => jlt h
set_option maxRecDepth 100000 in
theorem jck_220 : jOk jD_220 := jOk_of (n := 123) (by decide +kernel) (by decide +kernel) jlt_220
theorem jlt_221 : ∀ pc e, jI_221 pc = some e → pc < 96 := fun _ _ h => jlt h
set_option maxRecDepth 100000 in
theorem jck_221 : jOk jD_221 := jOk_of (n := 96) (by decide +kernel) (by decide +kernel) jlt_221
theorem jlt_222 : ∀ pc e, jI_222 pc = some e → pc < 79 := fun _ _ h => jlt h
set_option maxRecDepth 100000 in
theorem jck_222 : jOk jD_222 := jOk_of (n := 79) (by decide +kernel) (by decide +kernel) jlt_222
theorem jlt_223 : ∀ pc e, jI_223 pc = some e → pc < 31 := fun _ _ h => jlt h
set_option maxRecDepth 100000 in
theorem jck_223 : jOk jD_223 := jOk_of (n := 31) (by decide +kernel) (by decide +kernel) jlt_223
theorem jlt_224 : ∀ pc e, jI_224 pc = some e → pc < 13 := fun _ _ h => jlt h
set_option maxRecDepth 100000 in
theorem jck_224 : jOk jD_224 := jOk_of (n := 13) (by decide +kernel) (by decide +kernel) jlt_224
theorem jlt_225 : ∀ pc e, jI_225 pc = some e → pc < 130 := fun _ _ h => jlt h
set_option maxRecDepth 100000 in
theorem jck_225 : jOk jD_225 := jOk_of (n := 130) (by decide +kernel) (by decide +kernel) jlt_225
theorem jlt_226 : ∀ pc e, jI_226 pc = some e → pc < 190 := fun _ _ h => jlt h
set_option maxRecDepth 100000 in
theorem jck_226 : jOk jD_226 := jOk_of (n := 190) (by decide +kernel) (by decide +kernel) jlt_226
theorem jlt_227 : ∀ pc e, jI_227 pc = some e → pc < 88 := fun _ _ h => jlt h
set_option maxRecDepth 100000 in
theorem jck_227 : jOk jD_227 := jOk_of (n := 88) (by decide +kernel) (by decide +kernel) jlt_227
theorem jlt_228 : ∀ pc e, jI_228 pc = some e → pc < 14 := fun _ _ h => jlt h
set_option maxRecDepth 100000 in
theorem jck_228 : jOk jD_228 := jOk_of (n := 14) (by decide +kernel) (by decide +kernel) jlt_228
theorem jlt_229 : ∀ pc e, jI_229 pc = some e → pc < 140 := fun _ _ h => jlt h
set_option maxRecDepth 100000 in
theorem jck_229 : jOk jD_229 := jOk_of (n := 140) (by decide +kernel) (by decide +kernel) jlt_229
theorem jlt_230 : ∀ pc e, jI_230 pc = some e → pc < 191 := fun _ _ h => jlt h
set_option maxRecDepth 100000 in
theorem jck_230 : jOk jD_230 := jOk_of (n := 191) (by decide +kernel) (by decide +kernel) jlt_230
theorem jlt_231 : ∀ pc e, jI_231 pc = some e → pc < 114 := fun _ _ h => jlt h
set_option maxRecDepth 100000 in
theorem jck_231 : jOk jD_231 := jOk_of (n := 114) (by decide +kernel) (by decide +kernel) jlt_231
theorem jlt_232 : ∀ pc e, jI_232 pc = some e → pc < 170 := fun _ _ h => jlt h
set_option maxRecDepth 100000 in
theorem jck_232 : jOk jD_232 := jOk_of (n := 170) (by decide +kernel) (by decide +kernel) jlt_232
theorem jlt_233 : ∀ pc e, jI_233 pc = some e → pc < 72 := fun _ _ h => jlt h
set_option maxRecDepth 100000 in
theorem jck_233 : jOk jD_233 := jOk_of (n := 72) (by decide +kernel) (by decide +kernel) jlt_233
theorem jlt_234 : ∀ pc e, jI_234 pc = some e → pc < 37 := fun _ _ h => jlt h
set_option maxRecDepth 100000 in
theorem jck_234 : jOk jD_234 := jOk_of (n := 37) (by decide +kernel) (by decide +kernel) jlt_234
theorem jlt_235 : ∀ pc e, jI_235 pc = some e → pc < 40 := fun _ _ h => jlt h
set_option maxRecDepth 100000 in
theorem jck_235 : jOk jD_235 := jOk_of (n := 40) (by decide +kernel) (by decide +kernel) jlt_235
theorem jlt_236 : ∀ pc e, jI_236 pc = some e → pc < 141 := fun _ _ h => jlt h
set_option maxRecDepth 100000 in
theorem jck_236 : jOk jD_236 := jOk_of (n := 141) (by decide +kernel) (by decide +kernel) jlt_236
theorem jlt_237 : ∀ pc e, jI_237 pc = some e → pc < 104 := fun _ _ h => jlt h
set_option maxRecDepth 100000 in
theorem jck_237 : jOk jD_237 := jOk_of (n := 104) (by decide +kernel) (by decide +kernel) jlt_237
theorem jlt_238 : ∀ pc e, jI_238 pc = some e → pc < 224 := fun _ _ h => jlt h
set_option maxRecDepth 100000 in
theorem jck_238 : jOk jD_238 := jOk_of (n := 224) (by decide +kernel) (by decide +kernel) jlt_238
theorem jlt_239 : ∀ pc e, jI_239 pc = some e → pc < 46 := fun _ _ h => jlt h
set_option maxRecDepth 100000 in
theorem jck_239 : jOk jD_239 := jOk_of (n := 46) (by decide +kernel) (by decide +kernel) jlt_239
theorem jlt_240 : ∀ pc e, jI_240 pc = some e → pc < 169 := fun _ _ h => jlt h
set_option maxRecDepth 100000 in
theorem jck_240 : jOk jD_240 := jOk_of (n := 169) (by decide +kernel) (by decide +kernel) jlt_240
theorem jlt_241 : ∀ pc e, jI_241 pc = some e → pc < 31 := fun _ _ h => jlt h
set_option maxRecDepth 100000 in
theorem jck_241 : jOk jD_241 := jOk_of (n := 31) (by decide +kernel) (by decide +kernel) jlt_241
theorem jlt_242 : ∀ pc e, jI_242 pc = some e → pc < 20 := fun _ _ h => jlt h
set_option maxRecDepth 100000 in
theorem jck_242 : jOk jD_242 := jOk_of (n := 20) (by decide +kernel) (by decide +kernel) jlt_242
theorem jlt_243 : ∀ pc e, jI_243 pc = some e → pc < 105 := fun _ _ h => jlt h
set_option maxRecDepth 100000 in
theorem jck_243 : jOk jD_243 := jOk_of (n := 105) (by decide +kernel) (by decide +kernel) jlt_243
theorem jlt_244 : ∀ pc e, jI_244 pc = some e → pc < 129 := fun _ _ h => jlt h
set_option maxRecDepth 100000 in
theorem jck_244 : jOk jD_244 := jOk_of (n := 129) (by decide +kernel) (by decide +kernel) jlt_244
theorem jlt_245 : ∀ pc e, jI_245 pc = some e → pc < 46 := fun _ _ h => jlt h
set_option maxRecDepth 100000 in
theorem jck_245 : jOk jD_245 := jOk_of (n := 46) (by decide +kernel) (by decide +kernel) jlt_245
theorem jlt_246 : ∀ pc e, jI_246 pc = some e → pc < 30 := fun _ _ h => jlt h
set_option maxRecDepth 100000 in
theorem jck_246 : jOk jD_246 := jOk_of (n := 30) (by decide +kernel) (by decide +kernel) jlt_246
theorem jlt_247 : ∀ pc e, jI_247 pc = some e → pc < 88 := fun _ _ h => jlt h
set_option maxRecDepth 100000 in
theorem jck_247 : jOk jD_247 := jOk_of (n := 88) (by decide +kernel) (by decide +kernel) jlt_247
theorem jlt_248 : ∀ pc e, jI_248 pc = some e → pc < 142 := fun _ _ h => jlt h
set_option maxRecDepth 100000 in
theorem jck_248 : jOk jD_248 := jOk_of (n := 142) (by decide +kernel) (by decide +kernel) jlt_248
theorem jlt_249 : ∀ pc e, jI_249 pc = some e → pc < 104 := fun _ _ h => jlt h
set_option maxRecDepth 100000 in
theorem jck_249 : jOk jD_249 := jOk_of (n := 104) (by decide +kernel) (by decide +kernel) jlt_249
theorem jlt_250 : ∀ pc e, jI_250 pc = some e → pc < 114 := fun _ _ h => jlt h
set_option maxRecDepth 100000 in
theorem jck_250 : jOk jD_250 := jOk_of (n := 114) (by decide +kernel) (by decide +kernel) jlt_250
theorem jlt_251 : ∀ pc e, jI_251 pc = some e → pc < 46 := fun _ _ h => jlt h
set_option maxRecDepth 100000 in
theorem jck_251 : jOk jD_251 := jOk_of (n := 46) (by decide +kernel) (by decide +kernel) jlt_251
theorem jlt_252 : ∀ pc e, jI_252 pc = some e → pc < 94 := fun _ _ h => jlt h
set_option maxRecDepth 100000 in
theorem jck_252 : jOk jD_252 := jOk_of (n := 94) (by decide +kernel) (by decide +kernel) jlt_252
theorem jlt_253 : ∀ pc e, jI_253 pc = some e → pc < 30 := fun _ _ h => jlt h
set_option maxRecDepth 100000 in
theorem jck_253 : jOk jD_253 := jOk_of (n := 30) (by decide +kernel) (by decide +kernel) jlt_253
theorem jlt_254 : ∀ pc e, jI_254 pc = some e → pc < 50 := fun _ _ h => jlt h
set_option maxRecDepth 100000 in
theorem jck_254 : jOk jD_254 := jOk_of (n := 50) (by decide +kernel) (by decide +kernel) jlt_254
theorem jlt_255 : ∀ pc e, jI_255 pc = some e → pc < 76 := fun _ _ h => jlt h
set_option maxRecDepth 100000 in
theorem jck_255 : jOk jD_255 := jOk_of (n := 76) (by decide +kernel) (by decide +kernel) jlt_255
theorem jlt_256 : ∀ pc e, jI_256 pc = some e → pc < 12 := fun _ _ h => jlt h
set_option maxRecDepth 100000 in
theorem jck_256 : jOk jD_256 := jOk_of (n := 12) (by decide +kernel) (by decide +kernel) jlt_256
theorem jlt_257 : ∀ pc e, jI_257 pc = some e → pc < 60 := fun _ _ h => jlt h
set_option maxRecDepth 100000 in
theorem jck_257 : jOk jD_257 := jOk_of (n := 60) (by decide +kernel) (by decide +kernel) jlt_257
theorem jlt_258 : ∀ pc e, jI_258 pc = some e → pc < 75 := fun _ _ h => jlt h
set_option maxRecDepth 100000 in
theorem jck_258 : jOk jD_258 := jOk_of (n := 75) (by decide +kernel) (by decide +kernel) jlt_258
theorem jlt_259 : ∀ pc e, jI_259 pc = some e → pc < 49 := fun _ _ h => jlt h
set_option maxRecDepth 100000 in
theorem jck_259 : jOk jD_259 := jOk_of (n := 49) (by decide +kernel) (by decide +kernel) jlt_259
theorem jlt_260 : ∀ pc e, jI_260 pc = some e → pc < 233 := fun _ _ h => jlt h
set_option maxRecDepth 100000 in
theorem jck_260 : jOk jD_260 := jOk_of (n := 233) (by decide +kernel) (by decide +kernel) jlt_260
theorem jlt_261 : ∀ pc e, jI_261 pc = some e → pc < 95 := fun _ _ h => jlt h
set_option maxRecDepth 100000 in
theorem jck_261 : jOk jD_261 := jOk_of (n := 95) (by decide +kernel) (by decide +kernel) jlt_261
theorem jlt_262 : ∀ pc e, jI_262 pc = some e → pc < 72 := fun _ _ h => jlt h
set_option maxRecDepth 100000 in
theorem jck_262 : jOk jD_262 := jOk_of (n := 72) (by decide +kernel) (by decide +kernel) jlt_262
theorem jlt_263 : ∀ pc e, jI_263 pc = some e → pc < 53 := fun _ _ h => jlt h
set_option maxRecDepth 100000 in
theorem jck_263 : jOk jD_263 := jOk_of (n := 53) (by decide +kernel) (by decide +kernel) jlt_263
