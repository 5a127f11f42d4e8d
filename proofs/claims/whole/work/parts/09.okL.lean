/-! The law's own code, sixteen places at a time -/
set_option maxRecDepth 100000 in
theorem zokr_0 : zckR 12 false 2 cL_law 0 zr255_0 = true := by decide +kernel
set_option maxRecDepth 100000 in
theorem zokr_1 : zckR 12 false 2 cL_law 16 zr255_1 = true := by decide +kernel
set_option maxRecDepth 100000 in
theorem zokr_2 : zckR 12 false 2 cL_law 32 zr255_2 = true := by decide +kernel
set_option maxRecDepth 100000 in
theorem zokr_3 : zckR 12 false 2 cL_law 48 zr255_3 = true := by decide +kernel
set_option maxRecDepth 100000 in
theorem zokr_4 : zckR 12 false 2 cL_law 64 zr255_4 = true := by decide +kernel
set_option maxRecDepth 100000 in
theorem zokr_5 : zckR 12 false 2 cL_law 80 zr255_5 = true := by decide +kernel
set_option maxRecDepth 100000 in
theorem zokr_6 : zckR 12 false 2 cL_law 96 zr255_6 = true := by decide +kernel
set_option maxRecDepth 100000 in
theorem zokr_7 : zckR 12 false 2 cL_law 112 zr255_7 = true := by decide +kernel
set_option maxRecDepth 100000 in
theorem zokr_8 : zckR 12 false 2 cL_law 128 zr255_8 = true := by decide +kernel
set_option maxRecDepth 100000 in
theorem zokr_9 : zckR 12 false 2 cL_law 144 zr255_9 = true := by decide +kernel
set_option maxRecDepth 100000 in
theorem zokr_10 : zckR 12 false 2 cL_law 160 zr255_10 = true := by decide +kernel
set_option maxRecDepth 100000 in
theorem zokr_11 : zckR 12 false 2 cL_law 176 zr255_11 = true := by decide +kernel
set_option maxRecDepth 100000 in
theorem zokr_12 : zckR 12 false 2 cL_law 192 zr255_12 = true := by decide +kernel
set_option maxRecDepth 100000 in
theorem zokr_13 : zckR 12 false 2 cL_law 208 zr255_13 = true := by decide +kernel
set_option maxRecDepth 100000 in
theorem zokr_14 : zckR 12 false 2 cL_law 224 zr255_14 = true := by decide +kernel
set_option maxRecDepth 100000 in
theorem zokr_15 : zckR 12 false 2 cL_law 240 zr255_15 = true := by decide +kernel
set_option maxRecDepth 100000 in
theorem zokr_16 : zckR 12 false 2 cL_law 256 zr255_16 = true := by decide +kernel
set_option maxRecDepth 100000 in
theorem zokr_17 : zckR 12 false 2 cL_law 272 zr255_17 = true := by decide +kernel
set_option maxRecDepth 100000 in
theorem zokr_18 : zckR 12 false 2 cL_law 288 zr255_18 = true := by decide +kernel
set_option maxRecDepth 100000 in
theorem zokr_19 : zckR 12 false 2 cL_law 304 zr255_19 = true := by decide +kernel
set_option maxRecDepth 100000 in
theorem zokr_20 : zckR 12 false 2 cL_law 320 zr255_20 = true := by decide +kernel
set_option maxRecDepth 100000 in
theorem zokr_21 : zckR 12 false 2 cL_law 336 zr255_21 = true := by decide +kernel
set_option maxRecDepth 100000 in
theorem zokr_22 : zckR 12 false 2 cL_law 352 zr255_22 = true := by decide +kernel
set_option maxRecDepth 100000 in
theorem zokr_23 : zckR 12 false 2 cL_law 368 zr255_23 = true := by decide +kernel
set_option maxRecDepth 100000 in
theorem zokr_24 : zckR 12 false 2 cL_law 384 zr255_24 = true := by decide +kernel
set_option maxRecDepth 100000 in
theorem zokr_25 : zckR 12 false 2 cL_law 400 zr255_25 = true := by decide +kernel
set_option maxRecDepth 100000 in
theorem zokr_26 : zckR 12 false 2 cL_law 416 zr255_26 = true := by decide +kernel
set_option maxRecDepth 100000 in
theorem zokr_27 : zckR 12 false 2 cL_law 432 zr255_27 = true := by decide +kernel
set_option maxRecDepth 100000 in
theorem zokr_28 : zckR 12 false 2 cL_law 448 zr255_28 = true := by decide +kernel
set_option maxRecDepth 100000 in
theorem zokr_29 : zckR 12 false 2 cL_law 464 zr255_29 = true := by decide +kernel
set_option maxRecDepth 100000 in
theorem zokr_30 : zckR 12 false 2 cL_law 480 zr255_30 = true := by decide +kernel
set_option maxRecDepth 100000 in
theorem zokr_31 : zckR 12 false 2 cL_law 496 zr255_31 = true := by decide +kernel
set_option maxRecDepth 100000 in
theorem zokr_32 : zckR 12 false 2 cL_law 512 zr255_32 = true := by decide +kernel
set_option maxRecDepth 100000 in
theorem zokr_33 : zckR 12 false 2 cL_law 528 zr255_33 = true := by decide +kernel
set_option maxRecDepth 100000 in
theorem zokr_34 : zckR 12 false 2 cL_law 544 zr255_34 = true := by decide +kernel
set_option maxRecDepth 100000 in
theorem zokr_35 : zckR 12 false 2 cL_law 560 zr255_35 = true := by decide +kernel
set_option maxRecDepth 100000 in
theorem zokr_36 : zckR 12 false 2 cL_law 576 zr255_36 = true := by decide +kernel
set_option maxRecDepth 100000 in
theorem zokr_37 : zckR 12 false 2 cL_law 592 zr255_37 = true := by decide +kernel
set_option maxRecDepth 100000 in
theorem zokr_38 : zckR 12 false 2 cL_law 608 zr255_38 = true := by decide +kernel
set_option maxRecDepth 100000 in
theorem zokr_39 : zckR 12 false 2 cL_law 624 zr255_39 = true := by decide +kernel
set_option maxRecDepth 100000 in
theorem zokr_40 : zckR 12 false 2 cL_law 640 zr255_40 = true := by decide +kernel
set_option maxRecDepth 100000 in
theorem zokr_41 : zckR 12 false 2 cL_law 656 zr255_41 = true := by decide +kernel
set_option maxRecDepth 100000 in
theorem zokr_42 : zckR 12 false 2 cL_law 672 zr255_42 = true := by decide +kernel
set_option maxRecDepth 100000 in
theorem zokr_43 : zckR 12 false 2 cL_law 688 zr255_43 = true := by decide +kernel
set_option maxRecDepth 100000 in
theorem zokr_44 : zckR 12 false 2 cL_law 704 zr255_44 = true := by decide +kernel
set_option maxRecDepth 100000 in
theorem zokr_45 : zckR 12 false 2 cL_law 720 zr255_45 = true := by decide +kernel
set_option maxRecDepth 100000 in
theorem zokr_46 : zckR 12 false 2 cL_law 736 zr255_46 = true := by decide +kernel
set_option maxRecDepth 100000 in
theorem zokr_47 : zckR 12 false 2 cL_law 752 zr255_47 = true := by decide +kernel
set_option maxRecDepth 100000 in
theorem zokr_48 : zckR 12 false 2 cL_law 768 zr255_48 = true := by decide +kernel
set_option maxRecDepth 100000 in
theorem zokr_49 : zckR 12 false 2 cL_law 784 zr255_49 = true := by decide +kernel
set_option maxRecDepth 100000 in
theorem zokr_50 : zckR 12 false 2 cL_law 800 zr255_50 = true := by decide +kernel
set_option maxRecDepth 100000 in
theorem zokr_51 : zckR 12 false 2 cL_law 816 zr255_51 = true := by decide +kernel
set_option maxRecDepth 100000 in
theorem zokr_52 : zckR 12 false 2 cL_law 832 zr255_52 = true := by decide +kernel
set_option maxRecDepth 100000 in
theorem zokr_53 : zckR 12 false 2 cL_law 848 zr255_53 = true := by decide +kernel
set_option maxRecDepth 100000 in
theorem zokr_54 : zckR 12 false 2 cL_law 864 zr255_54 = true := by decide +kernel
set_option maxRecDepth 100000 in
theorem zokr_55 : zckR 12 false 2 cL_law 880 zr255_55 = true := by decide +kernel
set_option maxRecDepth 100000 in
theorem zokr_56 : zckR 12 false 2 cL_law 896 zr255_56 = true := by decide +kernel
set_option maxRecDepth 100000 in
theorem zokr_57 : zckR 12 false 2 cL_law 912 zr255_57 = true := by decide +kernel
set_option maxRecDepth 100000 in
theorem zokr_58 : zckR 12 false 2 cL_law 928 zr255_58 = true := by decide +kernel
set_option maxRecDepth 100000 in
theorem zokr_59 : zckR 12 false 2 cL_law 944 zr255_59 = true := by decide +kernel
set_option maxRecDepth 100000 in
theorem zokr_60 : zckR 12 false 2 cL_law 960 zr255_60 = true := by decide +kernel
set_option maxRecDepth 100000 in
theorem zokr_61 : zckR 12 false 2 cL_law 976 zr255_61 = true := by decide +kernel
set_option maxRecDepth 100000 in
theorem zokr_62 : zckR 12 false 2 cL_law 992 zr255_62 = true := by decide +kernel
set_option maxRecDepth 100000 in
theorem zokr_63 : zckR 12 false 2 cL_law 1008 zr255_63 = true := by decide +kernel
set_option maxRecDepth 100000 in
theorem zokr_64 : zckR 12 false 2 cL_law 1024 zr255_64 = true := by decide +kernel
set_option maxRecDepth 100000 in
theorem zokr_65 : zckR 12 false 2 cL_law 1040 zr255_65 = true := by decide +kernel
set_option maxRecDepth 100000 in
theorem zokr_66 : zckR 12 false 2 cL_law 1056 zr255_66 = true := by decide +kernel
set_option maxRecDepth 100000 in
theorem zokr_67 : zckR 12 false 2 cL_law 1072 zr255_67 = true := by decide +kernel
set_option maxRecDepth 100000 in
theorem zokr_68 : zckR 12 false 2 cL_law 1088 zr255_68 = true := by decide +kernel
set_option maxRecDepth 100000 in
theorem zokr_69 : zckR 12 false 2 cL_law 1104 zr255_69 = true := by decide +kernel
set_option maxRecDepth 100000 in
theorem zokr_70 : zckR 12 false 2 cL_law 1120 zr255_70 = true := by decide +kernel
set_option maxRecDepth 100000 in
theorem zokr_71 : zckR 12 false 2 cL_law 1136 zr255_71 = true := by decide +kernel
set_option maxRecDepth 100000 in
theorem zokr_72 : zckR 12 false 2 cL_law 1152 zr255_72 = true := by decide +kernel
set_option maxRecDepth 100000 in
theorem zokr_73 : zckR 12 false 2 cL_law 1168 zr255_73 = true := by decide +kernel
set_option maxRecDepth 100000 in
theorem zokr_74 : zckR 12 false 2 cL_law 1184 zr255_74 = true := by decide +kernel
set_option maxRecDepth 100000 in
theorem zokr_75 : zckR 12 false 2 cL_law 1200 zr255_75 = true := by decide +kernel
set_option maxRecDepth 100000 in
theorem zokr_76 : zckR 12 false 2 cL_law 1216 zr255_76 = true := by decide +kernel
theorem zckT_cons {o : Nat} {ini : Bool} {rc : Nat} {cc : ByteArray} {pc : Nat} {r : List (Option ZE)} {t : ZT} (h1 : (r.length == 16 || t.isEmpty) = true) (h2 : zckR o ini rc cc pc r = true) (h3 : zckT o ini rc cc (pc + 16) t = true) : zckT o ini rc cc pc (r :: t) = true := by
  simp only [zckT, h1, h2, h3, Bool.and_self]
set_option maxRecDepth 100000 in
theorem zok_law : zckT 12 false 2 cL_law 0 zt255 = true := zckT_cons rfl zokr_0 (zckT_cons rfl zokr_1 (zckT_cons rfl zokr_2 (zckT_cons rfl zokr_3 (zckT_cons rfl zokr_4 (zckT_cons rfl zokr_5 (zckT_cons rfl zokr_6 (zckT_cons rfl zokr_7 (zckT_cons rfl zokr_8 (zckT_cons rfl zokr_9 (zckT_cons rfl zokr_10 (zckT_cons rfl zokr_11 (zckT_cons rfl zokr_12 (zckT_cons rfl zokr_13 (zckT_cons rfl zokr_14 (zckT_cons rfl zokr_15 (zckT_cons rfl zokr_16 (zckT_cons rfl zokr_17 (zckT_cons rfl zokr_18 (zckT_cons rfl zokr_19 (zckT_cons rfl zokr_20 (zckT_cons rfl zokr_21 (zckT_cons rfl zokr_22 (zckT_cons rfl zokr_23 (zckT_cons rfl zokr_24 (zckT_cons rfl zokr_25 (zckT_cons rfl zokr_26 (zckT_cons rfl zokr_27 (zckT_cons rfl zokr_28 (zckT_cons rfl zokr_29 (zckT_cons rfl zokr_30 (zckT_cons rfl zokr_31 (zckT_cons rfl zokr_32 (zckT_cons rfl zokr_33 (zckT_cons rfl zokr_34 (zckT_cons rfl zokr_35 (zckT_cons rfl zokr_36 (zckT_cons rfl zokr_37 (zckT_cons rfl zokr_38 (zckT_cons rfl zokr_39 (zckT_cons rfl zokr_40 (zckT_cons rfl zokr_41 (zckT_cons rfl zokr_42 (zckT_cons rfl zokr_43 (zckT_cons rfl zokr_44 (zckT_cons rfl zokr_45 (zckT_cons rfl zokr_46 (zckT_cons rfl zokr_47 (zckT_cons rfl zokr_48 (zckT_cons rfl zokr_49 (zckT_cons rfl zokr_50 (zckT_cons rfl zokr_51 (zckT_cons rfl zokr_52 (zckT_cons rfl zokr_53 (zckT_cons rfl zokr_54 (zckT_cons rfl zokr_55 (zckT_cons rfl zokr_56 (zckT_cons rfl zokr_57 (zckT_cons rfl zokr_58 (zckT_cons rfl zokr_59 (zckT_cons rfl zokr_60 (zckT_cons rfl zokr_61 (zckT_cons rfl zokr_62 (zckT_cons rfl zokr_63 (zckT_cons rfl zokr_64 (zckT_cons rfl zokr_65 (zckT_cons rfl zokr_66 (zckT_cons rfl zokr_67 (zckT_cons rfl zokr_68 (zckT_cons rfl zokr_69 (zckT_cons rfl zokr_70 (zckT_cons rfl zokr_71 (zckT_cons rfl zokr_72 (zckT_cons rfl zokr_73 (zckT_cons rfl zokr_74 (zckT_cons rfl zokr_75 (zckT_cons rfl zokr_76 (rfl)))))))))))))))))))))))))))))))))))))))))))))))))))))))))))))))))))))))))))))
