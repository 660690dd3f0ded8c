theorem jlt_266 : ∀ pc e, jI_266 pc = some e → pc < 1732 := fun _ _ h => jlt h
set_option maxRecDepth 100000 in
theorem jcl_0 : jckC jD_266 0 24 = true := by decide +kernel
set_option maxRecDepth 100000 in
theorem jcl_1 : jckC jD_266 24 24 = true := by decide +kernel
set_option maxRecDepth 100000 in
theorem jcl_2 : jckC jD_266 48 24 = true := by decide +kernel
set_option maxRecDepth 100000 in
theorem jcl_3 : jckC jD_266 72 24 = true := by decide +kernel
set_option maxRecDepth 100000 in
theorem jcl_4 : jckC jD_266 96 24 = true := by decide +kernel
set_option maxRecDepth 100000 in
theorem jcl_5 : jckC jD_266 120 24 = true := by decide +kernel
set_option maxRecDepth 100000 in
theorem jcl_6 : jckC jD_266 144 24 = true := by decide +kernel
set_option maxRecDepth 100000 in
theorem jcl_7 : jckC jD_266 168 24 = true := by decide +kernel
set_option maxRecDepth 100000 in
theorem jcl_8 : jckC jD_266 192 24 = true := by decide +kernel
set_option maxRecDepth 100000 in
theorem jcl_9 : jckC jD_266 216 24 = true := by decide +kernel
set_option maxRecDepth 100000 in
theorem jcl_10 : jckC jD_266 240 24 = true := by decide +kernel
set_option maxRecDepth 100000 in
theorem jcl_11 : jckC jD_266 264 24 = true := by decide +kernel
set_option maxRecDepth 100000 in
theorem jcl_12 : jckC jD_266 288 24 = true := by decide +kernel
set_option maxRecDepth 100000 in
theorem jcl_13 : jckC jD_266 312 24 = true := by decide +kernel
set_option maxRecDepth 100000 in
theorem jcl_14 : jckC jD_266 336 24 = true := by decide +kernel
set_option maxRecDepth 100000 in
theorem jcl_15 : jckC jD_266 360 24 = true := by decide +kernel
set_option maxRecDepth 100000 in
theorem jcl_16 : jckC jD_266 384 24 = true := by decide +kernel
set_option maxRecDepth 100000 in
theorem jcl_17 : jckC jD_266 408 24 = true := by decide +kernel
set_option maxRecDepth 100000 in
theorem jcl_18 : jckC jD_266 432 24 = true := by decide +kernel
set_option maxRecDepth 100000 in
theorem jcl_19 : jckC jD_266 456 24 = true := by decide +kernel
set_option maxRecDepth 100000 in
theorem jcl_20 : jckC jD_266 480 24 = true := by decide +kernel
set_option maxRecDepth 100000 in
theorem jcl_21 : jckC jD_266 504 24 = true := by decide +kernel
set_option maxRecDepth 100000 in
theorem jcl_22 : jckC jD_266 528 24 = true := by decide +kernel
set_option maxRecDepth 100000 in
theorem jcl_23 : jckC jD_266 552 24 = true := by decide +kernel
set_option maxRecDepth 100000 in
theorem jcl_24 : jckC jD_266 576 24 = true := by decide +kernel
set_option maxRecDepth 100000 in
theorem jcl_25 : jckC jD_266 600 24 = true := by decide +kernel
set_option maxRecDepth 100000 in
theorem jcl_26 : jckC jD_266 624 24 = true := by decide +kernel
set_option maxRecDepth 100000 in
theorem jcl_27 : jckC jD_266 648 24 = true := by decide +kernel
set_option maxRecDepth 100000 in
theorem jcl_28 : jckC jD_266 672 24 = true := by decide +kernel
set_option maxRecDepth 100000 in
theorem jcl_29 : jckC jD_266 696 24 = true := by decide +kernel
set_option maxRecDepth 100000 in
theorem jcl_30 : jckC jD_266 720 24 = true := by decide +kernel
set_option maxRecDepth 100000 in
theorem jcl_31 : jckC jD_266 744 24 = true := by decide +kernel
set_option maxRecDepth 100000 in
theorem jcl_32 : jckC jD_266 768 24 = true := by decide +kernel
set_option maxRecDepth 100000 in
theorem jcl_33 : jckC jD_266 792 24 = true := by decide +kernel
set_option maxRecDepth 100000 in
theorem jcl_34 : jckC jD_266 816 24 = true := by decide +kernel
set_option maxRecDepth 100000 in
theorem jcl_35 : jckC jD_266 840 24 = true := by decide +kernel
set_option maxRecDepth 100000 in
theorem jcl_36 : jckC jD_266 864 24 = true := by decide +kernel
set_option maxRecDepth 100000 in
theorem jcl_37 : jckC jD_266 888 24 = true := by decide +kernel
set_option maxRecDepth 100000 in
theorem jcl_38 : jckC jD_266 912 24 = true := by decide +kernel
set_option maxRecDepth 100000 in
theorem jcl_39 : jckC jD_266 936 24 = true := by decide +kernel
set_option maxRecDepth 100000 in
theorem jcl_40 : jckC jD_266 960 24 = true := by decide +kernel
set_option maxRecDepth 100000 in
theorem jcl_41 : jckC jD_266 984 24 = true := by decide +kernel
set_option maxRecDepth 100000 in
theorem jcl_42 : jckC jD_266 1008 24 = true := by decide +kernel
set_option maxRecDepth 100000 in
theorem jcl_43 : jckC jD_266 1032 24 = true := by decide +kernel
set_option maxRecDepth 100000 in
theorem jcl_44 : jckC jD_266 1056 24 = true := by decide +kernel
set_option maxRecDepth 100000 in
theorem jcl_45 : jckC jD_266 1080 24 = true := by decide +kernel
set_option maxRecDepth 100000 in
theorem jcl_46 : jckC jD_266 1104 24 = true := by decide +kernel
set_option maxRecDepth 100000 in
theorem jcl_47 : jckC jD_266 1128 24 = true := by decide +kernel
set_option maxRecDepth 100000 in
theorem jcl_48 : jckC jD_266 1152 24 = true := by decide +kernel
set_option maxRecDepth 100000 in
theorem jcl_49 : jckC jD_266 1176 24 = true := by decide +kernel
set_option maxRecDepth 100000 in
theorem jcl_50 : jckC jD_266 1200 24 = true := by decide +kernel
set_option maxRecDepth 100000 in
theorem jcl_51 : jckC jD_266 1224 24 = true := by decide +kernel
set_option maxRecDepth 100000 in
theorem jcl_52 : jckC jD_266 1248 24 = true := by decide +kernel
set_option maxRecDepth 100000 in
theorem jcl_53 : jckC jD_266 1272 24 = true := by decide +kernel
set_option maxRecDepth 100000 in
theorem jcl_54 : jckC jD_266 1296 24 = true := by decide +kernel
set_option maxRecDepth 100000 in
theorem jcl_55 : jckC jD_266 1320 24 = true := by decide +kernel
set_option maxRecDepth 100000 in
theorem jcl_56 : jckC jD_266 1344 24 = true := by decide +kernel
set_option maxRecDepth 100000 in
theorem jcl_57 : jckC jD_266 1368 24 = true := by decide +kernel
set_option maxRecDepth 100000 in
theorem jcl_58 : jckC jD_266 1392 24 = true := by decide +kernel
set_option maxRecDepth 100000 in
theorem jcl_59 : jckC jD_266 1416 24 = true := by decide +kernel
set_option maxRecDepth 100000 in
theorem jcl_60 : jckC jD_266 1440 24 = true := by decide +kernel
set_option maxRecDepth 100000 in
theorem jcl_61 : jckC jD_266 1464 24 = true := by decide +kernel
set_option maxRecDepth 100000 in
theorem jcl_62 : jckC jD_266 1488 24 = true := by decide +kernel
set_option maxRecDepth 100000 in
theorem jcl_63 : jckC jD_266 1512 24 = true := by decide +kernel
set_option maxRecDepth 100000 in
theorem jcl_64 : jckC jD_266 1536 24 = true := by decide +kernel
set_option maxRecDepth 100000 in
theorem jcl_65 : jckC jD_266 1560 24 = true := by decide +kernel
set_option maxRecDepth 100000 in
theorem jcl_66 : jckC jD_266 1584 24 = true := by decide +kernel
set_option maxRecDepth 100000 in
theorem jcl_67 : jckC jD_266 1608 24 = true := by decide +kernel
set_option maxRecDepth 100000 in
theorem jcl_68 : jckC jD_266 1632 24 = true := by decide +kernel
set_option maxRecDepth 100000 in
theorem jcl_69 : jckC jD_266 1656 24 = true := by decide +kernel
set_option maxRecDepth 100000 in
theorem jcl_70 : jckC jD_266 1680 24 = true := by decide +kernel
set_option maxRecDepth 100000 in
theorem jcl_71 : jckC jD_266 1704 24 = true := by decide +kernel
set_option maxRecDepth 100000 in
theorem jcl_72 : jckC jD_266 1728 24 = true := by decide +kernel
