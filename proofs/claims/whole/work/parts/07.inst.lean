/-! printed by wip/whole/gen.py: which methods are an object's, which are static -/
def zIl : List Bool := [true, true, true, true, true, true, true, true, true, true, true, true, true, true, true, true, false, false, true, false, true, true, true, true, true, true, true, true, true, true, true, true, true, true, true, true, true, true, true, true, true, true, true, true, false, true, true, true, false, true, true, true, true, true, true, true, false, true, true, true, true, true, true, true, true, true, true, false, false, false, true, true, true, true, true, true, true, true, false, true, true, true, true, true, true, false, true, true, true, true, true, true, true, true, true, true, true, true, true, true, true, true, true, true, true, true, false, false, true, true, true, true, true, true, true, true, true, true, true, true, true, true, false, true, true, true, true, true, true, true, true, true, true, true, true, true, true, true, true, true, true, true, true, true, true, true, true, true, true, true, false, true, true, true, true, true, true, true, true, true, true, true, true, true, true, true, true, true, true, true, false, true, true, true, true, true, true, true, true, true, true, true, true, true, true, true, true, true, true, true, true, true, true, true, false, true, true, true, true, true, true, true, false, true, true, true, true, true, true, true, true, true, true, true, true, true, true, true, true, true, true, true, true, true, true, true, true, true, true, true, true, true, true, true, true, true, true, true, true, true, true, true, true, true, true, true, true, true, true, true, true, true, true, true, true]
theorem zinst_0 : Cond.instanceMethod (zM 0).1 ∈ tables_1 := List.mem_of_getElem? (i := 24) (by decide +kernel)
theorem zinst_1 : Cond.instanceMethod (zM 1).1 ∈ tables_1 := List.mem_of_getElem? (i := 34) (by decide +kernel)
theorem zinst_2 : Cond.instanceMethod (zM 2).1 ∈ tables_1 := List.mem_of_getElem? (i := 89) (by decide +kernel)
theorem zinst_3 : Cond.instanceMethod (zM 3).1 ∈ tables_1 := List.mem_of_getElem? (i := 112) (by decide +kernel)
theorem zinst_4 : Cond.instanceMethod (zM 4).1 ∈ tables_1 := List.mem_of_getElem? (i := 118) (by decide +kernel)
theorem zinst_5 : Cond.instanceMethod (zM 5).1 ∈ tables_1 := List.mem_of_getElem? (i := 157) (by decide +kernel)
theorem zinst_6 : Cond.instanceMethod (zM 6).1 ∈ tables_1 := List.mem_of_getElem? (i := 179) (by decide +kernel)
theorem zinst_7 : Cond.instanceMethod (zM 7).1 ∈ tables_1 := List.mem_of_getElem? (i := 214) (by decide +kernel)
theorem zinst_8 : Cond.instanceMethod (zM 8).1 ∈ tables_1 := List.mem_of_getElem? (i := 236) (by decide +kernel)
theorem zinst_9 : Cond.instanceMethod (zM 9).1 ∈ tables_1 := List.mem_of_getElem? (i := 330) (by decide +kernel)
theorem zinst_10 : Cond.instanceMethod (zM 10).1 ∈ tables_1 := List.mem_of_getElem? (i := 335) (by decide +kernel)
theorem zinst_11 : Cond.instanceMethod (zM 11).1 ∈ tables_1 := List.mem_of_getElem? (i := 338) (by decide +kernel)
theorem zinst_12 : Cond.instanceMethod (zM 12).1 ∈ tables_1 := List.mem_of_getElem? (i := 342) (by decide +kernel)
theorem zinst_13 : Cond.instanceMethod (zM 13).1 ∈ tables_1 := List.mem_of_getElem? (i := 346) (by decide +kernel)
theorem zinst_14 : Cond.instanceMethod (zM 14).1 ∈ tables_1 := List.mem_of_getElem? (i := 352) (by decide +kernel)
theorem zinst_15 : Cond.instanceMethod (zM 15).1 ∈ tables_1 := List.mem_of_getElem? (i := 393) (by decide +kernel)
theorem zinst_16 : Cond.static (zM 16).1 ∈ tables_1 := List.mem_of_getElem? (i := 397) (by decide +kernel)
theorem zinst_17 : Cond.static (zM 17).1 ∈ tables_1 := List.mem_of_getElem? (i := 400) (by decide +kernel)
theorem zinst_18 : Cond.instanceMethod (zM 18).1 ∈ tables_1 := List.mem_of_getElem? (i := 406) (by decide +kernel)
theorem zinst_19 : Cond.static (zM 19).1 ∈ tables_1 := List.mem_of_getElem? (i := 410) (by decide +kernel)
theorem zinst_20 : Cond.instanceMethod (zM 20).1 ∈ tables_1 := List.mem_of_getElem? (i := 414) (by decide +kernel)
theorem zinst_21 : Cond.instanceMethod (zM 21).1 ∈ tables_1 := List.mem_of_getElem? (i := 418) (by decide +kernel)
theorem zinst_22 : Cond.instanceMethod (zM 22).1 ∈ tables_1 := List.mem_of_getElem? (i := 470) (by decide +kernel)
theorem zinst_23 : Cond.instanceMethod (zM 23).1 ∈ tables_1 := List.mem_of_getElem? (i := 475) (by decide +kernel)
theorem zinst_24 : Cond.instanceMethod (zM 24).1 ∈ tables_1 := List.mem_of_getElem? (i := 480) (by decide +kernel)
theorem zinst_25 : Cond.instanceMethod (zM 25).1 ∈ tables_1 := List.mem_of_getElem? (i := 485) (by decide +kernel)
theorem zinst_26 : Cond.instanceMethod (zM 26).1 ∈ tables_1 := List.mem_of_getElem? (i := 488) (by decide +kernel)
theorem zinst_27 : Cond.instanceMethod (zM 27).1 ∈ tables_1 := List.mem_of_getElem? (i := 493) (by decide +kernel)
theorem zinst_28 : Cond.instanceMethod (zM 28).1 ∈ tables_1 := List.mem_of_getElem? (i := 496) (by decide +kernel)
theorem zinst_29 : Cond.instanceMethod (zM 29).1 ∈ tables_1 := List.mem_of_getElem? (i := 501) (by decide +kernel)
theorem zinst_30 : Cond.instanceMethod (zM 30).1 ∈ tables_1 := List.mem_of_getElem? (i := 504) (by decide +kernel)
theorem zinst_31 : Cond.instanceMethod (zM 31).1 ∈ tables_1 := List.mem_of_getElem? (i := 508) (by decide +kernel)
theorem zinst_32 : Cond.instanceMethod (zM 32).1 ∈ tables_1 := List.mem_of_getElem? (i := 512) (by decide +kernel)
theorem zinst_33 : Cond.instanceMethod (zM 33).1 ∈ tables_1 := List.mem_of_getElem? (i := 516) (by decide +kernel)
theorem zinst_34 : Cond.instanceMethod (zM 34).1 ∈ tables_1 := List.mem_of_getElem? (i := 520) (by decide +kernel)
theorem zinst_35 : Cond.instanceMethod (zM 35).1 ∈ tables_1 := List.mem_of_getElem? (i := 526) (by decide +kernel)
theorem zinst_36 : Cond.instanceMethod (zM 36).1 ∈ tables_1 := List.mem_of_getElem? (i := 534) (by decide +kernel)
theorem zinst_37 : Cond.instanceMethod (zM 37).1 ∈ tables_1 := List.mem_of_getElem? (i := 538) (by decide +kernel)
theorem zinst_38 : Cond.instanceMethod (zM 38).1 ∈ tables_1 := List.mem_of_getElem? (i := 544) (by decide +kernel)
theorem zinst_39 : Cond.instanceMethod (zM 39).1 ∈ tables_1 := List.mem_of_getElem? (i := 549) (by decide +kernel)
theorem zinst_40 : Cond.instanceMethod (zM 40).1 ∈ tables_1 := List.mem_of_getElem? (i := 553) (by decide +kernel)
theorem zinst_41 : Cond.instanceMethod (zM 41).1 ∈ tables_1 := List.mem_of_getElem? (i := 559) (by decide +kernel)
theorem zinst_42 : Cond.instanceMethod (zM 42).1 ∈ tables_1 := List.mem_of_getElem? (i := 563) (by decide +kernel)
theorem zinst_43 : Cond.instanceMethod (zM 43).1 ∈ tables_1 := List.mem_of_getElem? (i := 569) (by decide +kernel)
theorem zinst_44 : Cond.static (zM 44).1 ∈ tables_1 := List.mem_of_getElem? (i := 576) (by decide +kernel)
theorem zinst_45 : Cond.instanceMethod (zM 45).1 ∈ tables_1 := List.mem_of_getElem? (i := 588) (by decide +kernel)
theorem zinst_46 : Cond.instanceMethod (zM 46).1 ∈ tables_1 := List.mem_of_getElem? (i := 596) (by decide +kernel)
theorem zinst_47 : Cond.instanceMethod (zM 47).1 ∈ tables_1 := List.mem_of_getElem? (i := 600) (by decide +kernel)
theorem zinst_48 : Cond.static (zM 48).1 ∈ tables_1 := List.mem_of_getElem? (i := 604) (by decide +kernel)
theorem zinst_49 : Cond.instanceMethod (zM 49).1 ∈ tables_1 := List.mem_of_getElem? (i := 607) (by decide +kernel)
theorem zinst_50 : Cond.instanceMethod (zM 50).1 ∈ tables_1 := List.mem_of_getElem? (i := 612) (by decide +kernel)
theorem zinst_51 : Cond.instanceMethod (zM 51).1 ∈ tables_1 := List.mem_of_getElem? (i := 615) (by decide +kernel)
theorem zinst_52 : Cond.instanceMethod (zM 52).1 ∈ tables_1 := List.mem_of_getElem? (i := 620) (by decide +kernel)
theorem zinst_53 : Cond.instanceMethod (zM 53).1 ∈ tables_1 := List.mem_of_getElem? (i := 623) (by decide +kernel)
theorem zinst_54 : Cond.instanceMethod (zM 54).1 ∈ tables_1 := List.mem_of_getElem? (i := 627) (by decide +kernel)
theorem zinst_55 : Cond.instanceMethod (zM 55).1 ∈ tables_1 := List.mem_of_getElem? (i := 631) (by decide +kernel)
theorem zinst_56 : Cond.static (zM 56).1 ∈ tables_1 := List.mem_of_getElem? (i := 635) (by decide +kernel)
theorem zinst_57 : Cond.instanceMethod (zM 57).1 ∈ tables_1 := List.mem_of_getElem? (i := 641) (by decide +kernel)
theorem zinst_58 : Cond.instanceMethod (zM 58).1 ∈ tables_1 := List.mem_of_getElem? (i := 645) (by decide +kernel)
theorem zinst_59 : Cond.instanceMethod (zM 59).1 ∈ tables_1 := List.mem_of_getElem? (i := 650) (by decide +kernel)
theorem zinst_60 : Cond.instanceMethod (zM 60).1 ∈ tables_1 := List.mem_of_getElem? (i := 655) (by decide +kernel)
theorem zinst_61 : Cond.instanceMethod (zM 61).1 ∈ tables_1 := List.mem_of_getElem? (i := 658) (by decide +kernel)
theorem zinst_62 : Cond.instanceMethod (zM 62).1 ∈ tables_1 := List.mem_of_getElem? (i := 663) (by decide +kernel)
theorem zinst_63 : Cond.instanceMethod (zM 63).1 ∈ tables_1 := List.mem_of_getElem? (i := 667) (by decide +kernel)
theorem zinst_64 : Cond.instanceMethod (zM 64).1 ∈ tables_1 := List.mem_of_getElem? (i := 671) (by decide +kernel)
theorem zinst_65 : Cond.instanceMethod (zM 65).1 ∈ tables_1 := List.mem_of_getElem? (i := 675) (by decide +kernel)
theorem zinst_66 : Cond.instanceMethod (zM 66).1 ∈ tables_1 := List.mem_of_getElem? (i := 679) (by decide +kernel)
theorem zinst_67 : Cond.static (zM 67).1 ∈ tables_1 := List.mem_of_getElem? (i := 685) (by decide +kernel)
theorem zinst_68 : Cond.static (zM 68).1 ∈ tables_1 := List.mem_of_getElem? (i := 688) (by decide +kernel)
theorem zinst_69 : Cond.static (zM 69).1 ∈ tables_1 := List.mem_of_getElem? (i := 691) (by decide +kernel)
theorem zinst_70 : Cond.instanceMethod (zM 70).1 ∈ tables_1 := List.mem_of_getElem? (i := 694) (by decide +kernel)
theorem zinst_71 : Cond.instanceMethod (zM 71).1 ∈ tables_1 := List.mem_of_getElem? (i := 699) (by decide +kernel)
theorem zinst_72 : Cond.instanceMethod (zM 72).1 ∈ tables_1 := List.mem_of_getElem? (i := 702) (by decide +kernel)
theorem zinst_73 : Cond.instanceMethod (zM 73).1 ∈ tables_1 := List.mem_of_getElem? (i := 706) (by decide +kernel)
theorem zinst_74 : Cond.instanceMethod (zM 74).1 ∈ tables_1 := List.mem_of_getElem? (i := 711) (by decide +kernel)
theorem zinst_75 : Cond.instanceMethod (zM 75).1 ∈ tables_1 := List.mem_of_getElem? (i := 714) (by decide +kernel)
theorem zinst_76 : Cond.instanceMethod (zM 76).1 ∈ tables_1 := List.mem_of_getElem? (i := 719) (by decide +kernel)
theorem zinst_77 : Cond.instanceMethod (zM 77).1 ∈ tables_1 := List.mem_of_getElem? (i := 724) (by decide +kernel)
theorem zinst_78 : Cond.static (zM 78).1 ∈ tables_1 := List.mem_of_getElem? (i := 727) (by decide +kernel)
theorem zinst_79 : Cond.instanceMethod (zM 79).1 ∈ tables_1 := List.mem_of_getElem? (i := 730) (by decide +kernel)
theorem zinst_80 : Cond.instanceMethod (zM 80).1 ∈ tables_1 := List.mem_of_getElem? (i := 734) (by decide +kernel)
theorem zinst_81 : Cond.instanceMethod (zM 81).1 ∈ tables_1 := List.mem_of_getElem? (i := 739) (by decide +kernel)
theorem zinst_82 : Cond.instanceMethod (zM 82).1 ∈ tables_1 := List.mem_of_getElem? (i := 743) (by decide +kernel)
theorem zinst_83 : Cond.instanceMethod (zM 83).1 ∈ tables_1 := List.mem_of_getElem? (i := 747) (by decide +kernel)
theorem zinst_84 : Cond.instanceMethod (zM 84).1 ∈ tables_1 := List.mem_of_getElem? (i := 751) (by decide +kernel)
theorem zinst_85 : Cond.static (zM 85).1 ∈ tables_1 := List.mem_of_getElem? (i := 755) (by decide +kernel)
theorem zinst_86 : Cond.instanceMethod (zM 86).1 ∈ tables_1 := List.mem_of_getElem? (i := 758) (by decide +kernel)
theorem zinst_87 : Cond.instanceMethod (zM 87).1 ∈ tables_1 := List.mem_of_getElem? (i := 763) (by decide +kernel)
theorem zinst_88 : Cond.instanceMethod (zM 88).1 ∈ tables_1 := List.mem_of_getElem? (i := 767) (by decide +kernel)
theorem zinst_89 : Cond.instanceMethod (zM 89).1 ∈ tables_1 := List.mem_of_getElem? (i := 770) (by decide +kernel)
theorem zinst_90 : Cond.instanceMethod (zM 90).1 ∈ tables_1 := List.mem_of_getElem? (i := 775) (by decide +kernel)
theorem zinst_91 : Cond.instanceMethod (zM 91).1 ∈ tables_1 := List.mem_of_getElem? (i := 778) (by decide +kernel)
theorem zinst_92 : Cond.instanceMethod (zM 92).1 ∈ tables_1 := List.mem_of_getElem? (i := 782) (by decide +kernel)
theorem zinst_93 : Cond.instanceMethod (zM 93).1 ∈ tables_1 := List.mem_of_getElem? (i := 786) (by decide +kernel)
theorem zinst_94 : Cond.instanceMethod (zM 94).1 ∈ tables_1 := List.mem_of_getElem? (i := 791) (by decide +kernel)
theorem zinst_95 : Cond.instanceMethod (zM 95).1 ∈ tables_1 := List.mem_of_getElem? (i := 795) (by decide +kernel)
theorem zinst_96 : Cond.instanceMethod (zM 96).1 ∈ tables_1 := List.mem_of_getElem? (i := 798) (by decide +kernel)
theorem zinst_97 : Cond.instanceMethod (zM 97).1 ∈ tables_1 := List.mem_of_getElem? (i := 802) (by decide +kernel)
theorem zinst_98 : Cond.instanceMethod (zM 98).1 ∈ tables_1 := List.mem_of_getElem? (i := 806) (by decide +kernel)
theorem zinst_99 : Cond.instanceMethod (zM 99).1 ∈ tables_1 := List.mem_of_getElem? (i := 810) (by decide +kernel)
theorem zinst_100 : Cond.instanceMethod (zM 100).1 ∈ tables_1 := List.mem_of_getElem? (i := 817) (by decide +kernel)
theorem zinst_101 : Cond.instanceMethod (zM 101).1 ∈ tables_1 := List.mem_of_getElem? (i := 820) (by decide +kernel)
theorem zinst_102 : Cond.instanceMethod (zM 102).1 ∈ tables_1 := List.mem_of_getElem? (i := 826) (by decide +kernel)
theorem zinst_103 : Cond.instanceMethod (zM 103).1 ∈ tables_1 := List.mem_of_getElem? (i := 831) (by decide +kernel)
theorem zinst_104 : Cond.instanceMethod (zM 104).1 ∈ tables_1 := List.mem_of_getElem? (i := 836) (by decide +kernel)
theorem zinst_105 : Cond.instanceMethod (zM 105).1 ∈ tables_1 := List.mem_of_getElem? (i := 841) (by decide +kernel)
theorem zinst_106 : Cond.static (zM 106).1 ∈ tables_1 := List.mem_of_getElem? (i := 844) (by decide +kernel)
theorem zinst_107 : Cond.static (zM 107).1 ∈ tables_1 := List.mem_of_getElem? (i := 847) (by decide +kernel)
theorem zinst_108 : Cond.instanceMethod (zM 108).1 ∈ tables_1 := List.mem_of_getElem? (i := 851) (by decide +kernel)
theorem zinst_109 : Cond.instanceMethod (zM 109).1 ∈ tables_1 := List.mem_of_getElem? (i := 854) (by decide +kernel)
theorem zinst_110 : Cond.instanceMethod (zM 110).1 ∈ tables_1 := List.mem_of_getElem? (i := 858) (by decide +kernel)
theorem zinst_111 : Cond.instanceMethod (zM 111).1 ∈ tables_1 := List.mem_of_getElem? (i := 862) (by decide +kernel)
theorem zinst_112 : Cond.instanceMethod (zM 112).1 ∈ tables_1 := List.mem_of_getElem? (i := 867) (by decide +kernel)
theorem zinst_113 : Cond.instanceMethod (zM 113).1 ∈ tables_1 := List.mem_of_getElem? (i := 870) (by decide +kernel)
theorem zinst_114 : Cond.instanceMethod (zM 114).1 ∈ tables_1 := List.mem_of_getElem? (i := 874) (by decide +kernel)
theorem zinst_115 : Cond.instanceMethod (zM 115).1 ∈ tables_1 := List.mem_of_getElem? (i := 878) (by decide +kernel)
theorem zinst_116 : Cond.instanceMethod (zM 116).1 ∈ tables_1 := List.mem_of_getElem? (i := 883) (by decide +kernel)
theorem zinst_117 : Cond.instanceMethod (zM 117).1 ∈ tables_1 := List.mem_of_getElem? (i := 887) (by decide +kernel)
theorem zinst_118 : Cond.instanceMethod (zM 118).1 ∈ tables_1 := List.mem_of_getElem? (i := 890) (by decide +kernel)
theorem zinst_119 : Cond.instanceMethod (zM 119).1 ∈ tables_1 := List.mem_of_getElem? (i := 895) (by decide +kernel)
theorem zinst_120 : Cond.instanceMethod (zM 120).1 ∈ tables_1 := List.mem_of_getElem? (i := 899) (by decide +kernel)
theorem zinst_121 : Cond.instanceMethod (zM 121).1 ∈ tables_1 := List.mem_of_getElem? (i := 903) (by decide +kernel)
theorem zinst_122 : Cond.static (zM 122).1 ∈ tables_1 := List.mem_of_getElem? (i := 907) (by decide +kernel)
theorem zinst_123 : Cond.instanceMethod (zM 123).1 ∈ tables_1 := List.mem_of_getElem? (i := 911) (by decide +kernel)
theorem zinst_124 : Cond.instanceMethod (zM 124).1 ∈ tables_1 := List.mem_of_getElem? (i := 915) (by decide +kernel)
theorem zinst_125 : Cond.instanceMethod (zM 125).1 ∈ tables_1 := List.mem_of_getElem? (i := 918) (by decide +kernel)
theorem zinst_126 : Cond.instanceMethod (zM 126).1 ∈ tables_1 := List.mem_of_getElem? (i := 922) (by decide +kernel)
theorem zinst_127 : Cond.instanceMethod (zM 127).1 ∈ tables_1 := List.mem_of_getElem? (i := 927) (by decide +kernel)
theorem zinst_128 : Cond.instanceMethod (zM 128).1 ∈ tables_1 := List.mem_of_getElem? (i := 931) (by decide +kernel)
theorem zinst_129 : Cond.instanceMethod (zM 129).1 ∈ tables_1 := List.mem_of_getElem? (i := 938) (by decide +kernel)
theorem zinst_130 : Cond.instanceMethod (zM 130).1 ∈ tables_1 := List.mem_of_getElem? (i := 942) (by decide +kernel)
theorem zinst_131 : Cond.instanceMethod (zM 131).1 ∈ tables_1 := List.mem_of_getElem? (i := 947) (by decide +kernel)
theorem zinst_132 : Cond.instanceMethod (zM 132).1 ∈ tables_1 := List.mem_of_getElem? (i := 953) (by decide +kernel)
theorem zinst_133 : Cond.instanceMethod (zM 133).1 ∈ tables_1 := List.mem_of_getElem? (i := 1079) (by decide +kernel)
theorem zinst_134 : Cond.instanceMethod (zM 134).1 ∈ tables_1 := List.mem_of_getElem? (i := 1084) (by decide +kernel)
theorem zinst_135 : Cond.instanceMethod (zM 135).1 ∈ tables_1 := List.mem_of_getElem? (i := 1087) (by decide +kernel)
theorem zinst_136 : Cond.instanceMethod (zM 136).1 ∈ tables_1 := List.mem_of_getElem? (i := 1091) (by decide +kernel)
theorem zinst_137 : Cond.instanceMethod (zM 137).1 ∈ tables_1 := List.mem_of_getElem? (i := 1096) (by decide +kernel)
theorem zinst_138 : Cond.instanceMethod (zM 138).1 ∈ tables_1 := List.mem_of_getElem? (i := 1100) (by decide +kernel)
theorem zinst_139 : Cond.instanceMethod (zM 139).1 ∈ tables_1 := List.mem_of_getElem? (i := 1104) (by decide +kernel)
theorem zinst_140 : Cond.instanceMethod (zM 140).1 ∈ tables_1 := List.mem_of_getElem? (i := 1108) (by decide +kernel)
theorem zinst_141 : Cond.instanceMethod (zM 141).1 ∈ tables_1 := List.mem_of_getElem? (i := 1113) (by decide +kernel)
theorem zinst_142 : Cond.instanceMethod (zM 142).1 ∈ tables_1 := List.mem_of_getElem? (i := 1117) (by decide +kernel)
theorem zinst_143 : Cond.instanceMethod (zM 143).1 ∈ tables_1 := List.mem_of_getElem? (i := 1125) (by decide +kernel)
theorem zinst_144 : Cond.instanceMethod (zM 144).1 ∈ tables_1 := List.mem_of_getElem? (i := 1129) (by decide +kernel)
theorem zinst_145 : Cond.instanceMethod (zM 145).1 ∈ tables_1 := List.mem_of_getElem? (i := 1133) (by decide +kernel)
theorem zinst_146 : Cond.instanceMethod (zM 146).1 ∈ tables_1 := List.mem_of_getElem? (i := 1137) (by decide +kernel)
theorem zinst_147 : Cond.instanceMethod (zM 147).1 ∈ tables_1 := List.mem_of_getElem? (i := 1141) (by decide +kernel)
theorem zinst_148 : Cond.instanceMethod (zM 148).1 ∈ tables_1 := List.mem_of_getElem? (i := 1145) (by decide +kernel)
theorem zinst_149 : Cond.instanceMethod (zM 149).1 ∈ tables_1 := List.mem_of_getElem? (i := 1149) (by decide +kernel)
theorem zinst_150 : Cond.static (zM 150).1 ∈ tables_1 := List.mem_of_getElem? (i := 1152) (by decide +kernel)
theorem zinst_151 : Cond.instanceMethod (zM 151).1 ∈ tables_1 := List.mem_of_getElem? (i := 1156) (by decide +kernel)
theorem zinst_152 : Cond.instanceMethod (zM 152).1 ∈ tables_1 := List.mem_of_getElem? (i := 1160) (by decide +kernel)
theorem zinst_153 : Cond.instanceMethod (zM 153).1 ∈ tables_1 := List.mem_of_getElem? (i := 1164) (by decide +kernel)
theorem zinst_154 : Cond.instanceMethod (zM 154).1 ∈ tables_1 := List.mem_of_getElem? (i := 1168) (by decide +kernel)
theorem zinst_155 : Cond.instanceMethod (zM 155).1 ∈ tables_1 := List.mem_of_getElem? (i := 1172) (by decide +kernel)
theorem zinst_156 : Cond.instanceMethod (zM 156).1 ∈ tables_1 := List.mem_of_getElem? (i := 1176) (by decide +kernel)
theorem zinst_157 : Cond.instanceMethod (zM 157).1 ∈ tables_1 := List.mem_of_getElem? (i := 1180) (by decide +kernel)
theorem zinst_158 : Cond.instanceMethod (zM 158).1 ∈ tables_1 := List.mem_of_getElem? (i := 1184) (by decide +kernel)
theorem zinst_159 : Cond.instanceMethod (zM 159).1 ∈ tables_1 := List.mem_of_getElem? (i := 1188) (by decide +kernel)
theorem zinst_160 : Cond.instanceMethod (zM 160).1 ∈ tables_1 := List.mem_of_getElem? (i := 1193) (by decide +kernel)
theorem zinst_161 : Cond.instanceMethod (zM 161).1 ∈ tables_1 := List.mem_of_getElem? (i := 1197) (by decide +kernel)
theorem zinst_162 : Cond.instanceMethod (zM 162).1 ∈ tables_1 := List.mem_of_getElem? (i := 1201) (by decide +kernel)
theorem zinst_163 : Cond.instanceMethod (zM 163).1 ∈ tables_1 := List.mem_of_getElem? (i := 1214) (by decide +kernel)
theorem zinst_164 : Cond.instanceMethod (zM 164).1 ∈ tables_1 := List.mem_of_getElem? (i := 1218) (by decide +kernel)
theorem zinst_165 : Cond.instanceMethod (zM 165).1 ∈ tables_1 := List.mem_of_getElem? (i := 1222) (by decide +kernel)
theorem zinst_166 : Cond.instanceMethod (zM 166).1 ∈ tables_1 := List.mem_of_getElem? (i := 1227) (by decide +kernel)
theorem zinst_167 : Cond.instanceMethod (zM 167).1 ∈ tables_1 := List.mem_of_getElem? (i := 1231) (by decide +kernel)
theorem zinst_168 : Cond.instanceMethod (zM 168).1 ∈ tables_1 := List.mem_of_getElem? (i := 1235) (by decide +kernel)
theorem zinst_169 : Cond.instanceMethod (zM 169).1 ∈ tables_1 := List.mem_of_getElem? (i := 1239) (by decide +kernel)
theorem zinst_170 : Cond.static (zM 170).1 ∈ tables_1 := List.mem_of_getElem? (i := 1242) (by decide +kernel)
theorem zinst_171 : Cond.instanceMethod (zM 171).1 ∈ tables_1 := List.mem_of_getElem? (i := 1246) (by decide +kernel)
theorem zinst_172 : Cond.instanceMethod (zM 172).1 ∈ tables_1 := List.mem_of_getElem? (i := 1251) (by decide +kernel)
theorem zinst_173 : Cond.instanceMethod (zM 173).1 ∈ tables_1 := List.mem_of_getElem? (i := 1256) (by decide +kernel)
theorem zinst_174 : Cond.instanceMethod (zM 174).1 ∈ tables_1 := List.mem_of_getElem? (i := 1260) (by decide +kernel)
theorem zinst_175 : Cond.instanceMethod (zM 175).1 ∈ tables_1 := List.mem_of_getElem? (i := 1263) (by decide +kernel)
theorem zinst_176 : Cond.instanceMethod (zM 176).1 ∈ tables_1 := List.mem_of_getElem? (i := 1268) (by decide +kernel)
theorem zinst_177 : Cond.instanceMethod (zM 177).1 ∈ tables_1 := List.mem_of_getElem? (i := 1271) (by decide +kernel)
theorem zinst_178 : Cond.instanceMethod (zM 178).1 ∈ tables_1 := List.mem_of_getElem? (i := 1276) (by decide +kernel)
theorem zinst_179 : Cond.instanceMethod (zM 179).1 ∈ tables_1 := List.mem_of_getElem? (i := 1280) (by decide +kernel)
theorem zinst_180 : Cond.instanceMethod (zM 180).1 ∈ tables_1 := List.mem_of_getElem? (i := 1286) (by decide +kernel)
theorem zinst_181 : Cond.instanceMethod (zM 181).1 ∈ tables_1 := List.mem_of_getElem? (i := 1289) (by decide +kernel)
theorem zinst_182 : Cond.instanceMethod (zM 182).1 ∈ tables_1 := List.mem_of_getElem? (i := 1294) (by decide +kernel)
theorem zinst_183 : Cond.instanceMethod (zM 183).1 ∈ tables_1 := List.mem_of_getElem? (i := 1298) (by decide +kernel)
theorem zinst_184 : Cond.instanceMethod (zM 184).1 ∈ tables_1 := List.mem_of_getElem? (i := 1303) (by decide +kernel)
theorem zinst_185 : Cond.instanceMethod (zM 185).1 ∈ tables_1 := List.mem_of_getElem? (i := 1306) (by decide +kernel)
theorem zinst_186 : Cond.instanceMethod (zM 186).1 ∈ tables_1 := List.mem_of_getElem? (i := 1310) (by decide +kernel)
theorem zinst_187 : Cond.instanceMethod (zM 187).1 ∈ tables_1 := List.mem_of_getElem? (i := 1315) (by decide +kernel)
theorem zinst_188 : Cond.instanceMethod (zM 188).1 ∈ tables_1 := List.mem_of_getElem? (i := 1319) (by decide +kernel)
theorem zinst_189 : Cond.instanceMethod (zM 189).1 ∈ tables_1 := List.mem_of_getElem? (i := 1323) (by decide +kernel)
theorem zinst_190 : Cond.instanceMethod (zM 190).1 ∈ tables_1 := List.mem_of_getElem? (i := 1327) (by decide +kernel)
theorem zinst_191 : Cond.instanceMethod (zM 191).1 ∈ tables_1 := List.mem_of_getElem? (i := 1331) (by decide +kernel)
theorem zinst_192 : Cond.instanceMethod (zM 192).1 ∈ tables_1 := List.mem_of_getElem? (i := 1335) (by decide +kernel)
theorem zinst_193 : Cond.instanceMethod (zM 193).1 ∈ tables_1 := List.mem_of_getElem? (i := 1339) (by decide +kernel)
theorem zinst_194 : Cond.static (zM 194).1 ∈ tables_1 := List.mem_of_getElem? (i := 1342) (by decide +kernel)
theorem zinst_195 : Cond.instanceMethod (zM 195).1 ∈ tables_1 := List.mem_of_getElem? (i := 1346) (by decide +kernel)
theorem zinst_196 : Cond.instanceMethod (zM 196).1 ∈ tables_1 := List.mem_of_getElem? (i := 1350) (by decide +kernel)
theorem zinst_197 : Cond.instanceMethod (zM 197).1 ∈ tables_1 := List.mem_of_getElem? (i := 1354) (by decide +kernel)
theorem zinst_198 : Cond.instanceMethod (zM 198).1 ∈ tables_1 := List.mem_of_getElem? (i := 1358) (by decide +kernel)
theorem zinst_199 : Cond.instanceMethod (zM 199).1 ∈ tables_1 := List.mem_of_getElem? (i := 1362) (by decide +kernel)
theorem zinst_200 : Cond.instanceMethod (zM 200).1 ∈ tables_1 := List.mem_of_getElem? (i := 1366) (by decide +kernel)
theorem zinst_201 : Cond.instanceMethod (zM 201).1 ∈ tables_1 := List.mem_of_getElem? (i := 1370) (by decide +kernel)
theorem zinst_202 : Cond.static (zM 202).1 ∈ tables_1 := List.mem_of_getElem? (i := 1373) (by decide +kernel)
theorem zinst_203 : Cond.instanceMethod (zM 203).1 ∈ tables_1 := List.mem_of_getElem? (i := 1377) (by decide +kernel)
theorem zinst_204 : Cond.instanceMethod (zM 204).1 ∈ tables_1 := List.mem_of_getElem? (i := 1381) (by decide +kernel)
theorem zinst_205 : Cond.instanceMethod (zM 205).1 ∈ tables_1 := List.mem_of_getElem? (i := 1385) (by decide +kernel)
theorem zinst_206 : Cond.instanceMethod (zM 206).1 ∈ tables_1 := List.mem_of_getElem? (i := 1389) (by decide +kernel)
theorem zinst_207 : Cond.instanceMethod (zM 207).1 ∈ tables_1 := List.mem_of_getElem? (i := 1392) (by decide +kernel)
theorem zinst_208 : Cond.instanceMethod (zM 208).1 ∈ tables_1 := List.mem_of_getElem? (i := 1397) (by decide +kernel)
theorem zinst_209 : Cond.instanceMethod (zM 209).1 ∈ tables_1 := List.mem_of_getElem? (i := 1401) (by decide +kernel)
theorem zinst_210 : Cond.instanceMethod (zM 210).1 ∈ tables_1 := List.mem_of_getElem? (i := 1406) (by decide +kernel)
theorem zinst_211 : Cond.instanceMethod (zM 211).1 ∈ tables_1 := List.mem_of_getElem? (i := 1409) (by decide +kernel)
theorem zinst_212 : Cond.instanceMethod (zM 212).1 ∈ tables_1 := List.mem_of_getElem? (i := 1414) (by decide +kernel)
theorem zinst_213 : Cond.instanceMethod (zM 213).1 ∈ tables_1 := List.mem_of_getElem? (i := 1417) (by decide +kernel)
theorem zinst_214 : Cond.instanceMethod (zM 214).1 ∈ tables_1 := List.mem_of_getElem? (i := 1421) (by decide +kernel)
theorem zinst_215 : Cond.instanceMethod (zM 215).1 ∈ tables_1 := List.mem_of_getElem? (i := 1427) (by decide +kernel)
theorem zinst_216 : Cond.instanceMethod (zM 216).1 ∈ tables_1 := List.mem_of_getElem? (i := 1431) (by decide +kernel)
theorem zinst_217 : Cond.instanceMethod (zM 217).1 ∈ tables_1 := List.mem_of_getElem? (i := 1436) (by decide +kernel)
theorem zinst_218 : Cond.instanceMethod (zM 218).1 ∈ tables_1 := List.mem_of_getElem? (i := 1439) (by decide +kernel)
theorem zinst_219 : Cond.instanceMethod (zM 219).1 ∈ tables_1 := List.mem_of_getElem? (i := 1443) (by decide +kernel)
theorem zinst_220 : Cond.instanceMethod (zM 220).1 ∈ tables_1 := List.mem_of_getElem? (i := 1447) (by decide +kernel)
theorem zinst_221 : Cond.instanceMethod (zM 221).1 ∈ tables_1 := List.mem_of_getElem? (i := 1452) (by decide +kernel)
theorem zinst_222 : Cond.instanceMethod (zM 222).1 ∈ tables_1 := List.mem_of_getElem? (i := 1455) (by decide +kernel)
theorem zinst_223 : Cond.instanceMethod (zM 223).1 ∈ tables_1 := List.mem_of_getElem? (i := 1461) (by decide +kernel)
theorem zinst_224 : Cond.instanceMethod (zM 224).1 ∈ tables_1 := List.mem_of_getElem? (i := 1465) (by decide +kernel)
theorem zinst_225 : Cond.instanceMethod (zM 225).1 ∈ tables_1 := List.mem_of_getElem? (i := 1468) (by decide +kernel)
theorem zinst_226 : Cond.instanceMethod (zM 226).1 ∈ tables_1 := List.mem_of_getElem? (i := 1472) (by decide +kernel)
theorem zinst_227 : Cond.instanceMethod (zM 227).1 ∈ tables_1 := List.mem_of_getElem? (i := 1476) (by decide +kernel)
theorem zinst_228 : Cond.instanceMethod (zM 228).1 ∈ tables_1 := List.mem_of_getElem? (i := 1481) (by decide +kernel)
theorem zinst_229 : Cond.instanceMethod (zM 229).1 ∈ tables_1 := List.mem_of_getElem? (i := 1484) (by decide +kernel)
theorem zinst_230 : Cond.instanceMethod (zM 230).1 ∈ tables_1 := List.mem_of_getElem? (i := 1488) (by decide +kernel)
theorem zinst_231 : Cond.instanceMethod (zM 231).1 ∈ tables_1 := List.mem_of_getElem? (i := 1493) (by decide +kernel)
theorem zinst_232 : Cond.instanceMethod (zM 232).1 ∈ tables_1 := List.mem_of_getElem? (i := 1497) (by decide +kernel)
theorem zinst_233 : Cond.instanceMethod (zM 233).1 ∈ tables_1 := List.mem_of_getElem? (i := 1501) (by decide +kernel)
theorem zinst_234 : Cond.instanceMethod (zM 234).1 ∈ tables_1 := List.mem_of_getElem? (i := 1504) (by decide +kernel)
theorem zinst_235 : Cond.instanceMethod (zM 235).1 ∈ tables_1 := List.mem_of_getElem? (i := 1509) (by decide +kernel)
theorem zinst_236 : Cond.instanceMethod (zM 236).1 ∈ tables_1 := List.mem_of_getElem? (i := 1512) (by decide +kernel)
theorem zinst_237 : Cond.instanceMethod (zM 237).1 ∈ tables_1 := List.mem_of_getElem? (i := 1518) (by decide +kernel)
theorem zinst_238 : Cond.instanceMethod (zM 238).1 ∈ tables_1 := List.mem_of_getElem? (i := 1521) (by decide +kernel)
theorem zinst_239 : Cond.instanceMethod (zM 239).1 ∈ tables_1 := List.mem_of_getElem? (i := 1526) (by decide +kernel)
theorem zinst_240 : Cond.instanceMethod (zM 240).1 ∈ tables_1 := List.mem_of_getElem? (i := 1531) (by decide +kernel)
theorem zinst_241 : Cond.instanceMethod (zM 241).1 ∈ tables_1 := List.mem_of_getElem? (i := 1535) (by decide +kernel)
theorem zinst_242 : Cond.instanceMethod (zM 242).1 ∈ tables_1 := List.mem_of_getElem? (i := 1539) (by decide +kernel)
theorem zinst_243 : Cond.instanceMethod (zM 243).1 ∈ tables_1 := List.mem_of_getElem? (i := 1542) (by decide +kernel)
theorem zinst_244 : Cond.instanceMethod (zM 244).1 ∈ tables_1 := List.mem_of_getElem? (i := 1547) (by decide +kernel)
theorem zinst_245 : Cond.instanceMethod (zM 245).1 ∈ tables_1 := List.mem_of_getElem? (i := 1550) (by decide +kernel)
theorem zinst_246 : Cond.instanceMethod (zM 246).1 ∈ tables_1 := List.mem_of_getElem? (i := 1555) (by decide +kernel)
theorem zinst_247 : Cond.instanceMethod (zM 247).1 ∈ tables_1 := List.mem_of_getElem? (i := 1558) (by decide +kernel)
theorem zinst_248 : Cond.instanceMethod (zM 248).1 ∈ tables_1 := List.mem_of_getElem? (i := 1562) (by decide +kernel)
theorem zinst_249 : Cond.instanceMethod (zM 249).1 ∈ tables_1 := List.mem_of_getElem? (i := 1568) (by decide +kernel)
theorem zinst_250 : Cond.instanceMethod (zM 250).1 ∈ tables_1 := List.mem_of_getElem? (i := 1576) (by decide +kernel)
theorem zinst_251 : Cond.instanceMethod (zM 251).1 ∈ tables_1 := List.mem_of_getElem? (i := 1579) (by decide +kernel)
theorem zinst_252 : Cond.instanceMethod (zM 252).1 ∈ tables_1 := List.mem_of_getElem? (i := 1584) (by decide +kernel)
theorem zinst_253 : Cond.instanceMethod (zM 253).1 ∈ tables_1 := List.mem_of_getElem? (i := 1587) (by decide +kernel)
theorem zinst_254 : Cond.instanceMethod (zM 254).1 ∈ tables_1 := List.mem_of_getElem? (i := 1591) (by decide +kernel)
theorem zIl_lt : ∀ (l : List Bool) (y : Nat) (b : Bool), znth l y = some b → y < l.length := by
  intro l
  induction l with
  | nil => intro y b h; cases y <;> cases h
  | cons a t ih =>
    intro y b h
    cases y with
    | zero => simp
    | succ y => have := ih y b h; simp; omega
set_option maxRecDepth 100000 in
theorem zinst_all : ∀ y, znth zIl y = some true → Cond.instanceMethod (zM y).1 ∈ tables_1 := by
  intro y hy
  have hl : y < 255 := zIl_lt zIl y true hy
  by_cases h127 : y < 127
  · skip
    by_cases h63 : y < 63
    · skip
      by_cases h31 : y < 31
      · skip
        by_cases h15 : y < 15
        · skip
          by_cases h7 : y < 7
          · skip
            by_cases h3 : y < 3
            · skip
              by_cases h1 : y < 1
              · skip
                have e : y = 0 := by omega
                subst e; exact zinst_0
              · skip
                by_cases h2 : y < 2
                · skip
                  have e : y = 1 := by omega
                  subst e; exact zinst_1
                · skip
                  have e : y = 2 := by omega
                  subst e; exact zinst_2
            · skip
              by_cases h5 : y < 5
              · skip
                by_cases h4 : y < 4
                · skip
                  have e : y = 3 := by omega
                  subst e; exact zinst_3
                · skip
                  have e : y = 4 := by omega
                  subst e; exact zinst_4
              · skip
                by_cases h6 : y < 6
                · skip
                  have e : y = 5 := by omega
                  subst e; exact zinst_5
                · skip
                  have e : y = 6 := by omega
                  subst e; exact zinst_6
          · skip
            by_cases h11 : y < 11
            · skip
              by_cases h9 : y < 9
              · skip
                by_cases h8 : y < 8
                · skip
                  have e : y = 7 := by omega
                  subst e; exact zinst_7
                · skip
                  have e : y = 8 := by omega
                  subst e; exact zinst_8
              · skip
                by_cases h10 : y < 10
                · skip
                  have e : y = 9 := by omega
                  subst e; exact zinst_9
                · skip
                  have e : y = 10 := by omega
                  subst e; exact zinst_10
            · skip
              by_cases h13 : y < 13
              · skip
                by_cases h12 : y < 12
                · skip
                  have e : y = 11 := by omega
                  subst e; exact zinst_11
                · skip
                  have e : y = 12 := by omega
                  subst e; exact zinst_12
              · skip
                by_cases h14 : y < 14
                · skip
                  have e : y = 13 := by omega
                  subst e; exact zinst_13
                · skip
                  have e : y = 14 := by omega
                  subst e; exact zinst_14
        · skip
          by_cases h23 : y < 23
          · skip
            by_cases h19 : y < 19
            · skip
              by_cases h17 : y < 17
              · skip
                by_cases h16 : y < 16
                · skip
                  have e : y = 15 := by omega
                  subst e; exact zinst_15
                · skip
                  have e : y = 16 := by omega
                  subst e; cases hy
              · skip
                by_cases h18 : y < 18
                · skip
                  have e : y = 17 := by omega
                  subst e; cases hy
                · skip
                  have e : y = 18 := by omega
                  subst e; exact zinst_18
            · skip
              by_cases h21 : y < 21
              · skip
                by_cases h20 : y < 20
                · skip
                  have e : y = 19 := by omega
                  subst e; cases hy
                · skip
                  have e : y = 20 := by omega
                  subst e; exact zinst_20
              · skip
                by_cases h22 : y < 22
                · skip
                  have e : y = 21 := by omega
                  subst e; exact zinst_21
                · skip
                  have e : y = 22 := by omega
                  subst e; exact zinst_22
          · skip
            by_cases h27 : y < 27
            · skip
              by_cases h25 : y < 25
              · skip
                by_cases h24 : y < 24
                · skip
                  have e : y = 23 := by omega
                  subst e; exact zinst_23
                · skip
                  have e : y = 24 := by omega
                  subst e; exact zinst_24
              · skip
                by_cases h26 : y < 26
                · skip
                  have e : y = 25 := by omega
                  subst e; exact zinst_25
                · skip
                  have e : y = 26 := by omega
                  subst e; exact zinst_26
            · skip
              by_cases h29 : y < 29
              · skip
                by_cases h28 : y < 28
                · skip
                  have e : y = 27 := by omega
                  subst e; exact zinst_27
                · skip
                  have e : y = 28 := by omega
                  subst e; exact zinst_28
              · skip
                by_cases h30 : y < 30
                · skip
                  have e : y = 29 := by omega
                  subst e; exact zinst_29
                · skip
                  have e : y = 30 := by omega
                  subst e; exact zinst_30
      · skip
        by_cases h47 : y < 47
        · skip
          by_cases h39 : y < 39
          · skip
            by_cases h35 : y < 35
            · skip
              by_cases h33 : y < 33
              · skip
                by_cases h32 : y < 32
                · skip
                  have e : y = 31 := by omega
                  subst e; exact zinst_31
                · skip
                  have e : y = 32 := by omega
                  subst e; exact zinst_32
              · skip
                by_cases h34 : y < 34
                · skip
                  have e : y = 33 := by omega
                  subst e; exact zinst_33
                · skip
                  have e : y = 34 := by omega
                  subst e; exact zinst_34
            · skip
              by_cases h37 : y < 37
              · skip
                by_cases h36 : y < 36
                · skip
                  have e : y = 35 := by omega
                  subst e; exact zinst_35
                · skip
                  have e : y = 36 := by omega
                  subst e; exact zinst_36
              · skip
                by_cases h38 : y < 38
                · skip
                  have e : y = 37 := by omega
                  subst e; exact zinst_37
                · skip
                  have e : y = 38 := by omega
                  subst e; exact zinst_38
          · skip
            by_cases h43 : y < 43
            · skip
              by_cases h41 : y < 41
              · skip
                by_cases h40 : y < 40
                · skip
                  have e : y = 39 := by omega
                  subst e; exact zinst_39
                · skip
                  have e : y = 40 := by omega
                  subst e; exact zinst_40
              · skip
                by_cases h42 : y < 42
                · skip
                  have e : y = 41 := by omega
                  subst e; exact zinst_41
                · skip
                  have e : y = 42 := by omega
                  subst e; exact zinst_42
            · skip
              by_cases h45 : y < 45
              · skip
                by_cases h44 : y < 44
                · skip
                  have e : y = 43 := by omega
                  subst e; exact zinst_43
                · skip
                  have e : y = 44 := by omega
                  subst e; cases hy
              · skip
                by_cases h46 : y < 46
                · skip
                  have e : y = 45 := by omega
                  subst e; exact zinst_45
                · skip
                  have e : y = 46 := by omega
                  subst e; exact zinst_46
        · skip
          by_cases h55 : y < 55
          · skip
            by_cases h51 : y < 51
            · skip
              by_cases h49 : y < 49
              · skip
                by_cases h48 : y < 48
                · skip
                  have e : y = 47 := by omega
                  subst e; exact zinst_47
                · skip
                  have e : y = 48 := by omega
                  subst e; cases hy
              · skip
                by_cases h50 : y < 50
                · skip
                  have e : y = 49 := by omega
                  subst e; exact zinst_49
                · skip
                  have e : y = 50 := by omega
                  subst e; exact zinst_50
            · skip
              by_cases h53 : y < 53
              · skip
                by_cases h52 : y < 52
                · skip
                  have e : y = 51 := by omega
                  subst e; exact zinst_51
                · skip
                  have e : y = 52 := by omega
                  subst e; exact zinst_52
              · skip
                by_cases h54 : y < 54
                · skip
                  have e : y = 53 := by omega
                  subst e; exact zinst_53
                · skip
                  have e : y = 54 := by omega
                  subst e; exact zinst_54
          · skip
            by_cases h59 : y < 59
            · skip
              by_cases h57 : y < 57
              · skip
                by_cases h56 : y < 56
                · skip
                  have e : y = 55 := by omega
                  subst e; exact zinst_55
                · skip
                  have e : y = 56 := by omega
                  subst e; cases hy
              · skip
                by_cases h58 : y < 58
                · skip
                  have e : y = 57 := by omega
                  subst e; exact zinst_57
                · skip
                  have e : y = 58 := by omega
                  subst e; exact zinst_58
            · skip
              by_cases h61 : y < 61
              · skip
                by_cases h60 : y < 60
                · skip
                  have e : y = 59 := by omega
                  subst e; exact zinst_59
                · skip
                  have e : y = 60 := by omega
                  subst e; exact zinst_60
              · skip
                by_cases h62 : y < 62
                · skip
                  have e : y = 61 := by omega
                  subst e; exact zinst_61
                · skip
                  have e : y = 62 := by omega
                  subst e; exact zinst_62
    · skip
      by_cases h95 : y < 95
      · skip
        by_cases h79 : y < 79
        · skip
          by_cases h71 : y < 71
          · skip
            by_cases h67 : y < 67
            · skip
              by_cases h65 : y < 65
              · skip
                by_cases h64 : y < 64
                · skip
                  have e : y = 63 := by omega
                  subst e; exact zinst_63
                · skip
                  have e : y = 64 := by omega
                  subst e; exact zinst_64
              · skip
                by_cases h66 : y < 66
                · skip
                  have e : y = 65 := by omega
                  subst e; exact zinst_65
                · skip
                  have e : y = 66 := by omega
                  subst e; exact zinst_66
            · skip
              by_cases h69 : y < 69
              · skip
                by_cases h68 : y < 68
                · skip
                  have e : y = 67 := by omega
                  subst e; cases hy
                · skip
                  have e : y = 68 := by omega
                  subst e; cases hy
              · skip
                by_cases h70 : y < 70
                · skip
                  have e : y = 69 := by omega
                  subst e; cases hy
                · skip
                  have e : y = 70 := by omega
                  subst e; exact zinst_70
          · skip
            by_cases h75 : y < 75
            · skip
              by_cases h73 : y < 73
              · skip
                by_cases h72 : y < 72
                · skip
                  have e : y = 71 := by omega
                  subst e; exact zinst_71
                · skip
                  have e : y = 72 := by omega
                  subst e; exact zinst_72
              · skip
                by_cases h74 : y < 74
                · skip
                  have e : y = 73 := by omega
                  subst e; exact zinst_73
                · skip
                  have e : y = 74 := by omega
                  subst e; exact zinst_74
            · skip
              by_cases h77 : y < 77
              · skip
                by_cases h76 : y < 76
                · skip
                  have e : y = 75 := by omega
                  subst e; exact zinst_75
                · skip
                  have e : y = 76 := by omega
                  subst e; exact zinst_76
              · skip
                by_cases h78 : y < 78
                · skip
                  have e : y = 77 := by omega
                  subst e; exact zinst_77
                · skip
                  have e : y = 78 := by omega
                  subst e; cases hy
        · skip
          by_cases h87 : y < 87
          · skip
            by_cases h83 : y < 83
            · skip
              by_cases h81 : y < 81
              · skip
                by_cases h80 : y < 80
                · skip
                  have e : y = 79 := by omega
                  subst e; exact zinst_79
                · skip
                  have e : y = 80 := by omega
                  subst e; exact zinst_80
              · skip
                by_cases h82 : y < 82
                · skip
                  have e : y = 81 := by omega
                  subst e; exact zinst_81
                · skip
                  have e : y = 82 := by omega
                  subst e; exact zinst_82
            · skip
              by_cases h85 : y < 85
              · skip
                by_cases h84 : y < 84
                · skip
                  have e : y = 83 := by omega
                  subst e; exact zinst_83
                · skip
                  have e : y = 84 := by omega
                  subst e; exact zinst_84
              · skip
                by_cases h86 : y < 86
                · skip
                  have e : y = 85 := by omega
                  subst e; cases hy
                · skip
                  have e : y = 86 := by omega
                  subst e; exact zinst_86
          · skip
            by_cases h91 : y < 91
            · skip
              by_cases h89 : y < 89
              · skip
                by_cases h88 : y < 88
                · skip
                  have e : y = 87 := by omega
                  subst e; exact zinst_87
                · skip
                  have e : y = 88 := by omega
                  subst e; exact zinst_88
              · skip
                by_cases h90 : y < 90
                · skip
                  have e : y = 89 := by omega
                  subst e; exact zinst_89
                · skip
                  have e : y = 90 := by omega
                  subst e; exact zinst_90
            · skip
              by_cases h93 : y < 93
              · skip
                by_cases h92 : y < 92
                · skip
                  have e : y = 91 := by omega
                  subst e; exact zinst_91
                · skip
                  have e : y = 92 := by omega
                  subst e; exact zinst_92
              · skip
                by_cases h94 : y < 94
                · skip
                  have e : y = 93 := by omega
                  subst e; exact zinst_93
                · skip
                  have e : y = 94 := by omega
                  subst e; exact zinst_94
      · skip
        by_cases h111 : y < 111
        · skip
          by_cases h103 : y < 103
          · skip
            by_cases h99 : y < 99
            · skip
              by_cases h97 : y < 97
              · skip
                by_cases h96 : y < 96
                · skip
                  have e : y = 95 := by omega
                  subst e; exact zinst_95
                · skip
                  have e : y = 96 := by omega
                  subst e; exact zinst_96
              · skip
                by_cases h98 : y < 98
                · skip
                  have e : y = 97 := by omega
                  subst e; exact zinst_97
                · skip
                  have e : y = 98 := by omega
                  subst e; exact zinst_98
            · skip
              by_cases h101 : y < 101
              · skip
                by_cases h100 : y < 100
                · skip
                  have e : y = 99 := by omega
                  subst e; exact zinst_99
                · skip
                  have e : y = 100 := by omega
                  subst e; exact zinst_100
              · skip
                by_cases h102 : y < 102
                · skip
                  have e : y = 101 := by omega
                  subst e; exact zinst_101
                · skip
                  have e : y = 102 := by omega
                  subst e; exact zinst_102
          · skip
            by_cases h107 : y < 107
            · skip
              by_cases h105 : y < 105
              · skip
                by_cases h104 : y < 104
                · skip
                  have e : y = 103 := by omega
                  subst e; exact zinst_103
                · skip
                  have e : y = 104 := by omega
                  subst e; exact zinst_104
              · skip
                by_cases h106 : y < 106
                · skip
                  have e : y = 105 := by omega
                  subst e; exact zinst_105
                · skip
                  have e : y = 106 := by omega
                  subst e; cases hy
            · skip
              by_cases h109 : y < 109
              · skip
                by_cases h108 : y < 108
                · skip
                  have e : y = 107 := by omega
                  subst e; cases hy
                · skip
                  have e : y = 108 := by omega
                  subst e; exact zinst_108
              · skip
                by_cases h110 : y < 110
                · skip
                  have e : y = 109 := by omega
                  subst e; exact zinst_109
                · skip
                  have e : y = 110 := by omega
                  subst e; exact zinst_110
        · skip
          by_cases h119 : y < 119
          · skip
            by_cases h115 : y < 115
            · skip
              by_cases h113 : y < 113
              · skip
                by_cases h112 : y < 112
                · skip
                  have e : y = 111 := by omega
                  subst e; exact zinst_111
                · skip
                  have e : y = 112 := by omega
                  subst e; exact zinst_112
              · skip
                by_cases h114 : y < 114
                · skip
                  have e : y = 113 := by omega
                  subst e; exact zinst_113
                · skip
                  have e : y = 114 := by omega
                  subst e; exact zinst_114
            · skip
              by_cases h117 : y < 117
              · skip
                by_cases h116 : y < 116
                · skip
                  have e : y = 115 := by omega
                  subst e; exact zinst_115
                · skip
                  have e : y = 116 := by omega
                  subst e; exact zinst_116
              · skip
                by_cases h118 : y < 118
                · skip
                  have e : y = 117 := by omega
                  subst e; exact zinst_117
                · skip
                  have e : y = 118 := by omega
                  subst e; exact zinst_118
          · skip
            by_cases h123 : y < 123
            · skip
              by_cases h121 : y < 121
              · skip
                by_cases h120 : y < 120
                · skip
                  have e : y = 119 := by omega
                  subst e; exact zinst_119
                · skip
                  have e : y = 120 := by omega
                  subst e; exact zinst_120
              · skip
                by_cases h122 : y < 122
                · skip
                  have e : y = 121 := by omega
                  subst e; exact zinst_121
                · skip
                  have e : y = 122 := by omega
                  subst e; cases hy
            · skip
              by_cases h125 : y < 125
              · skip
                by_cases h124 : y < 124
                · skip
                  have e : y = 123 := by omega
                  subst e; exact zinst_123
                · skip
                  have e : y = 124 := by omega
                  subst e; exact zinst_124
              · skip
                by_cases h126 : y < 126
                · skip
                  have e : y = 125 := by omega
                  subst e; exact zinst_125
                · skip
                  have e : y = 126 := by omega
                  subst e; exact zinst_126
  · skip
    by_cases h191 : y < 191
    · skip
      by_cases h159 : y < 159
      · skip
        by_cases h143 : y < 143
        · skip
          by_cases h135 : y < 135
          · skip
            by_cases h131 : y < 131
            · skip
              by_cases h129 : y < 129
              · skip
                by_cases h128 : y < 128
                · skip
                  have e : y = 127 := by omega
                  subst e; exact zinst_127
                · skip
                  have e : y = 128 := by omega
                  subst e; exact zinst_128
              · skip
                by_cases h130 : y < 130
                · skip
                  have e : y = 129 := by omega
                  subst e; exact zinst_129
                · skip
                  have e : y = 130 := by omega
                  subst e; exact zinst_130
            · skip
              by_cases h133 : y < 133
              · skip
                by_cases h132 : y < 132
                · skip
                  have e : y = 131 := by omega
                  subst e; exact zinst_131
                · skip
                  have e : y = 132 := by omega
                  subst e; exact zinst_132
              · skip
                by_cases h134 : y < 134
                · skip
                  have e : y = 133 := by omega
                  subst e; exact zinst_133
                · skip
                  have e : y = 134 := by omega
                  subst e; exact zinst_134
          · skip
            by_cases h139 : y < 139
            · skip
              by_cases h137 : y < 137
              · skip
                by_cases h136 : y < 136
                · skip
                  have e : y = 135 := by omega
                  subst e; exact zinst_135
                · skip
                  have e : y = 136 := by omega
                  subst e; exact zinst_136
              · skip
                by_cases h138 : y < 138
                · skip
                  have e : y = 137 := by omega
                  subst e; exact zinst_137
                · skip
                  have e : y = 138 := by omega
                  subst e; exact zinst_138
            · skip
              by_cases h141 : y < 141
              · skip
                by_cases h140 : y < 140
                · skip
                  have e : y = 139 := by omega
                  subst e; exact zinst_139
                · skip
                  have e : y = 140 := by omega
                  subst e; exact zinst_140
              · skip
                by_cases h142 : y < 142
                · skip
                  have e : y = 141 := by omega
                  subst e; exact zinst_141
                · skip
                  have e : y = 142 := by omega
                  subst e; exact zinst_142
        · skip
          by_cases h151 : y < 151
          · skip
            by_cases h147 : y < 147
            · skip
              by_cases h145 : y < 145
              · skip
                by_cases h144 : y < 144
                · skip
                  have e : y = 143 := by omega
                  subst e; exact zinst_143
                · skip
                  have e : y = 144 := by omega
                  subst e; exact zinst_144
              · skip
                by_cases h146 : y < 146
                · skip
                  have e : y = 145 := by omega
                  subst e; exact zinst_145
                · skip
                  have e : y = 146 := by omega
                  subst e; exact zinst_146
            · skip
              by_cases h149 : y < 149
              · skip
                by_cases h148 : y < 148
                · skip
                  have e : y = 147 := by omega
                  subst e; exact zinst_147
                · skip
                  have e : y = 148 := by omega
                  subst e; exact zinst_148
              · skip
                by_cases h150 : y < 150
                · skip
                  have e : y = 149 := by omega
                  subst e; exact zinst_149
                · skip
                  have e : y = 150 := by omega
                  subst e; cases hy
          · skip
            by_cases h155 : y < 155
            · skip
              by_cases h153 : y < 153
              · skip
                by_cases h152 : y < 152
                · skip
                  have e : y = 151 := by omega
                  subst e; exact zinst_151
                · skip
                  have e : y = 152 := by omega
                  subst e; exact zinst_152
              · skip
                by_cases h154 : y < 154
                · skip
                  have e : y = 153 := by omega
                  subst e; exact zinst_153
                · skip
                  have e : y = 154 := by omega
                  subst e; exact zinst_154
            · skip
              by_cases h157 : y < 157
              · skip
                by_cases h156 : y < 156
                · skip
                  have e : y = 155 := by omega
                  subst e; exact zinst_155
                · skip
                  have e : y = 156 := by omega
                  subst e; exact zinst_156
              · skip
                by_cases h158 : y < 158
                · skip
                  have e : y = 157 := by omega
                  subst e; exact zinst_157
                · skip
                  have e : y = 158 := by omega
                  subst e; exact zinst_158
      · skip
        by_cases h175 : y < 175
        · skip
          by_cases h167 : y < 167
          · skip
            by_cases h163 : y < 163
            · skip
              by_cases h161 : y < 161
              · skip
                by_cases h160 : y < 160
                · skip
                  have e : y = 159 := by omega
                  subst e; exact zinst_159
                · skip
                  have e : y = 160 := by omega
                  subst e; exact zinst_160
              · skip
                by_cases h162 : y < 162
                · skip
                  have e : y = 161 := by omega
                  subst e; exact zinst_161
                · skip
                  have e : y = 162 := by omega
                  subst e; exact zinst_162
            · skip
              by_cases h165 : y < 165
              · skip
                by_cases h164 : y < 164
                · skip
                  have e : y = 163 := by omega
                  subst e; exact zinst_163
                · skip
                  have e : y = 164 := by omega
                  subst e; exact zinst_164
              · skip
                by_cases h166 : y < 166
                · skip
                  have e : y = 165 := by omega
                  subst e; exact zinst_165
                · skip
                  have e : y = 166 := by omega
                  subst e; exact zinst_166
          · skip
            by_cases h171 : y < 171
            · skip
              by_cases h169 : y < 169
              · skip
                by_cases h168 : y < 168
                · skip
                  have e : y = 167 := by omega
                  subst e; exact zinst_167
                · skip
                  have e : y = 168 := by omega
                  subst e; exact zinst_168
              · skip
                by_cases h170 : y < 170
                · skip
                  have e : y = 169 := by omega
                  subst e; exact zinst_169
                · skip
                  have e : y = 170 := by omega
                  subst e; cases hy
            · skip
              by_cases h173 : y < 173
              · skip
                by_cases h172 : y < 172
                · skip
                  have e : y = 171 := by omega
                  subst e; exact zinst_171
                · skip
                  have e : y = 172 := by omega
                  subst e; exact zinst_172
              · skip
                by_cases h174 : y < 174
                · skip
                  have e : y = 173 := by omega
                  subst e; exact zinst_173
                · skip
                  have e : y = 174 := by omega
                  subst e; exact zinst_174
        · skip
          by_cases h183 : y < 183
          · skip
            by_cases h179 : y < 179
            · skip
              by_cases h177 : y < 177
              · skip
                by_cases h176 : y < 176
                · skip
                  have e : y = 175 := by omega
                  subst e; exact zinst_175
                · skip
                  have e : y = 176 := by omega
                  subst e; exact zinst_176
              · skip
                by_cases h178 : y < 178
                · skip
                  have e : y = 177 := by omega
                  subst e; exact zinst_177
                · skip
                  have e : y = 178 := by omega
                  subst e; exact zinst_178
            · skip
              by_cases h181 : y < 181
              · skip
                by_cases h180 : y < 180
                · skip
                  have e : y = 179 := by omega
                  subst e; exact zinst_179
                · skip
                  have e : y = 180 := by omega
                  subst e; exact zinst_180
              · skip
                by_cases h182 : y < 182
                · skip
                  have e : y = 181 := by omega
                  subst e; exact zinst_181
                · skip
                  have e : y = 182 := by omega
                  subst e; exact zinst_182
          · skip
            by_cases h187 : y < 187
            · skip
              by_cases h185 : y < 185
              · skip
                by_cases h184 : y < 184
                · skip
                  have e : y = 183 := by omega
                  subst e; exact zinst_183
                · skip
                  have e : y = 184 := by omega
                  subst e; exact zinst_184
              · skip
                by_cases h186 : y < 186
                · skip
                  have e : y = 185 := by omega
                  subst e; exact zinst_185
                · skip
                  have e : y = 186 := by omega
                  subst e; exact zinst_186
            · skip
              by_cases h189 : y < 189
              · skip
                by_cases h188 : y < 188
                · skip
                  have e : y = 187 := by omega
                  subst e; exact zinst_187
                · skip
                  have e : y = 188 := by omega
                  subst e; exact zinst_188
              · skip
                by_cases h190 : y < 190
                · skip
                  have e : y = 189 := by omega
                  subst e; exact zinst_189
                · skip
                  have e : y = 190 := by omega
                  subst e; exact zinst_190
    · skip
      by_cases h223 : y < 223
      · skip
        by_cases h207 : y < 207
        · skip
          by_cases h199 : y < 199
          · skip
            by_cases h195 : y < 195
            · skip
              by_cases h193 : y < 193
              · skip
                by_cases h192 : y < 192
                · skip
                  have e : y = 191 := by omega
                  subst e; exact zinst_191
                · skip
                  have e : y = 192 := by omega
                  subst e; exact zinst_192
              · skip
                by_cases h194 : y < 194
                · skip
                  have e : y = 193 := by omega
                  subst e; exact zinst_193
                · skip
                  have e : y = 194 := by omega
                  subst e; cases hy
            · skip
              by_cases h197 : y < 197
              · skip
                by_cases h196 : y < 196
                · skip
                  have e : y = 195 := by omega
                  subst e; exact zinst_195
                · skip
                  have e : y = 196 := by omega
                  subst e; exact zinst_196
              · skip
                by_cases h198 : y < 198
                · skip
                  have e : y = 197 := by omega
                  subst e; exact zinst_197
                · skip
                  have e : y = 198 := by omega
                  subst e; exact zinst_198
          · skip
            by_cases h203 : y < 203
            · skip
              by_cases h201 : y < 201
              · skip
                by_cases h200 : y < 200
                · skip
                  have e : y = 199 := by omega
                  subst e; exact zinst_199
                · skip
                  have e : y = 200 := by omega
                  subst e; exact zinst_200
              · skip
                by_cases h202 : y < 202
                · skip
                  have e : y = 201 := by omega
                  subst e; exact zinst_201
                · skip
                  have e : y = 202 := by omega
                  subst e; cases hy
            · skip
              by_cases h205 : y < 205
              · skip
                by_cases h204 : y < 204
                · skip
                  have e : y = 203 := by omega
                  subst e; exact zinst_203
                · skip
                  have e : y = 204 := by omega
                  subst e; exact zinst_204
              · skip
                by_cases h206 : y < 206
                · skip
                  have e : y = 205 := by omega
                  subst e; exact zinst_205
                · skip
                  have e : y = 206 := by omega
                  subst e; exact zinst_206
        · skip
          by_cases h215 : y < 215
          · skip
            by_cases h211 : y < 211
            · skip
              by_cases h209 : y < 209
              · skip
                by_cases h208 : y < 208
                · skip
                  have e : y = 207 := by omega
                  subst e; exact zinst_207
                · skip
                  have e : y = 208 := by omega
                  subst e; exact zinst_208
              · skip
                by_cases h210 : y < 210
                · skip
                  have e : y = 209 := by omega
                  subst e; exact zinst_209
                · skip
                  have e : y = 210 := by omega
                  subst e; exact zinst_210
            · skip
              by_cases h213 : y < 213
              · skip
                by_cases h212 : y < 212
                · skip
                  have e : y = 211 := by omega
                  subst e; exact zinst_211
                · skip
                  have e : y = 212 := by omega
                  subst e; exact zinst_212
              · skip
                by_cases h214 : y < 214
                · skip
                  have e : y = 213 := by omega
                  subst e; exact zinst_213
                · skip
                  have e : y = 214 := by omega
                  subst e; exact zinst_214
          · skip
            by_cases h219 : y < 219
            · skip
              by_cases h217 : y < 217
              · skip
                by_cases h216 : y < 216
                · skip
                  have e : y = 215 := by omega
                  subst e; exact zinst_215
                · skip
                  have e : y = 216 := by omega
                  subst e; exact zinst_216
              · skip
                by_cases h218 : y < 218
                · skip
                  have e : y = 217 := by omega
                  subst e; exact zinst_217
                · skip
                  have e : y = 218 := by omega
                  subst e; exact zinst_218
            · skip
              by_cases h221 : y < 221
              · skip
                by_cases h220 : y < 220
                · skip
                  have e : y = 219 := by omega
                  subst e; exact zinst_219
                · skip
                  have e : y = 220 := by omega
                  subst e; exact zinst_220
              · skip
                by_cases h222 : y < 222
                · skip
                  have e : y = 221 := by omega
                  subst e; exact zinst_221
                · skip
                  have e : y = 222 := by omega
                  subst e; exact zinst_222
      · skip
        by_cases h239 : y < 239
        · skip
          by_cases h231 : y < 231
          · skip
            by_cases h227 : y < 227
            · skip
              by_cases h225 : y < 225
              · skip
                by_cases h224 : y < 224
                · skip
                  have e : y = 223 := by omega
                  subst e; exact zinst_223
                · skip
                  have e : y = 224 := by omega
                  subst e; exact zinst_224
              · skip
                by_cases h226 : y < 226
                · skip
                  have e : y = 225 := by omega
                  subst e; exact zinst_225
                · skip
                  have e : y = 226 := by omega
                  subst e; exact zinst_226
            · skip
              by_cases h229 : y < 229
              · skip
                by_cases h228 : y < 228
                · skip
                  have e : y = 227 := by omega
                  subst e; exact zinst_227
                · skip
                  have e : y = 228 := by omega
                  subst e; exact zinst_228
              · skip
                by_cases h230 : y < 230
                · skip
                  have e : y = 229 := by omega
                  subst e; exact zinst_229
                · skip
                  have e : y = 230 := by omega
                  subst e; exact zinst_230
          · skip
            by_cases h235 : y < 235
            · skip
              by_cases h233 : y < 233
              · skip
                by_cases h232 : y < 232
                · skip
                  have e : y = 231 := by omega
                  subst e; exact zinst_231
                · skip
                  have e : y = 232 := by omega
                  subst e; exact zinst_232
              · skip
                by_cases h234 : y < 234
                · skip
                  have e : y = 233 := by omega
                  subst e; exact zinst_233
                · skip
                  have e : y = 234 := by omega
                  subst e; exact zinst_234
            · skip
              by_cases h237 : y < 237
              · skip
                by_cases h236 : y < 236
                · skip
                  have e : y = 235 := by omega
                  subst e; exact zinst_235
                · skip
                  have e : y = 236 := by omega
                  subst e; exact zinst_236
              · skip
                by_cases h238 : y < 238
                · skip
                  have e : y = 237 := by omega
                  subst e; exact zinst_237
                · skip
                  have e : y = 238 := by omega
                  subst e; exact zinst_238
        · skip
          by_cases h247 : y < 247
          · skip
            by_cases h243 : y < 243
            · skip
              by_cases h241 : y < 241
              · skip
                by_cases h240 : y < 240
                · skip
                  have e : y = 239 := by omega
                  subst e; exact zinst_239
                · skip
                  have e : y = 240 := by omega
                  subst e; exact zinst_240
              · skip
                by_cases h242 : y < 242
                · skip
                  have e : y = 241 := by omega
                  subst e; exact zinst_241
                · skip
                  have e : y = 242 := by omega
                  subst e; exact zinst_242
            · skip
              by_cases h245 : y < 245
              · skip
                by_cases h244 : y < 244
                · skip
                  have e : y = 243 := by omega
                  subst e; exact zinst_243
                · skip
                  have e : y = 244 := by omega
                  subst e; exact zinst_244
              · skip
                by_cases h246 : y < 246
                · skip
                  have e : y = 245 := by omega
                  subst e; exact zinst_245
                · skip
                  have e : y = 246 := by omega
                  subst e; exact zinst_246
          · skip
            by_cases h251 : y < 251
            · skip
              by_cases h249 : y < 249
              · skip
                by_cases h248 : y < 248
                · skip
                  have e : y = 247 := by omega
                  subst e; exact zinst_247
                · skip
                  have e : y = 248 := by omega
                  subst e; exact zinst_248
              · skip
                by_cases h250 : y < 250
                · skip
                  have e : y = 249 := by omega
                  subst e; exact zinst_249
                · skip
                  have e : y = 250 := by omega
                  subst e; exact zinst_250
            · skip
              by_cases h253 : y < 253
              · skip
                by_cases h252 : y < 252
                · skip
                  have e : y = 251 := by omega
                  subst e; exact zinst_251
                · skip
                  have e : y = 252 := by omega
                  subst e; exact zinst_252
              · skip
                by_cases h254 : y < 254
                · skip
                  have e : y = 253 := by omega
                  subst e; exact zinst_253
                · skip
                  have e : y = 254 := by omega
                  subst e; exact zinst_254
set_option maxRecDepth 100000 in
theorem zstat_all : ∀ y, znth zIl y = some false → Cond.static (zM y).1 ∈ tables_1 := by
  intro y hy
  have hl : y < 255 := zIl_lt zIl y false hy
  by_cases h127 : y < 127
  · skip
    by_cases h63 : y < 63
    · skip
      by_cases h31 : y < 31
      · skip
        by_cases h15 : y < 15
        · skip
          by_cases h7 : y < 7
          · skip
            by_cases h3 : y < 3
            · skip
              by_cases h1 : y < 1
              · skip
                have e : y = 0 := by omega
                subst e; cases hy
              · skip
                by_cases h2 : y < 2
                · skip
                  have e : y = 1 := by omega
                  subst e; cases hy
                · skip
                  have e : y = 2 := by omega
                  subst e; cases hy
            · skip
              by_cases h5 : y < 5
              · skip
                by_cases h4 : y < 4
                · skip
                  have e : y = 3 := by omega
                  subst e; cases hy
                · skip
                  have e : y = 4 := by omega
                  subst e; cases hy
              · skip
                by_cases h6 : y < 6
                · skip
                  have e : y = 5 := by omega
                  subst e; cases hy
                · skip
                  have e : y = 6 := by omega
                  subst e; cases hy
          · skip
            by_cases h11 : y < 11
            · skip
              by_cases h9 : y < 9
              · skip
                by_cases h8 : y < 8
                · skip
                  have e : y = 7 := by omega
                  subst e; cases hy
                · skip
                  have e : y = 8 := by omega
                  subst e; cases hy
              · skip
                by_cases h10 : y < 10
                · skip
                  have e : y = 9 := by omega
                  subst e; cases hy
                · skip
                  have e : y = 10 := by omega
                  subst e; cases hy
            · skip
              by_cases h13 : y < 13
              · skip
                by_cases h12 : y < 12
                · skip
                  have e : y = 11 := by omega
                  subst e; cases hy
                · skip
                  have e : y = 12 := by omega
                  subst e; cases hy
              · skip
                by_cases h14 : y < 14
                · skip
                  have e : y = 13 := by omega
                  subst e; cases hy
                · skip
                  have e : y = 14 := by omega
                  subst e; cases hy
        · skip
          by_cases h23 : y < 23
          · skip
            by_cases h19 : y < 19
            · skip
              by_cases h17 : y < 17
              · skip
                by_cases h16 : y < 16
                · skip
                  have e : y = 15 := by omega
                  subst e; cases hy
                · skip
                  have e : y = 16 := by omega
                  subst e; exact zinst_16
              · skip
                by_cases h18 : y < 18
                · skip
                  have e : y = 17 := by omega
                  subst e; exact zinst_17
                · skip
                  have e : y = 18 := by omega
                  subst e; cases hy
            · skip
              by_cases h21 : y < 21
              · skip
                by_cases h20 : y < 20
                · skip
                  have e : y = 19 := by omega
                  subst e; exact zinst_19
                · skip
                  have e : y = 20 := by omega
                  subst e; cases hy
              · skip
                by_cases h22 : y < 22
                · skip
                  have e : y = 21 := by omega
                  subst e; cases hy
                · skip
                  have e : y = 22 := by omega
                  subst e; cases hy
          · skip
            by_cases h27 : y < 27
            · skip
              by_cases h25 : y < 25
              · skip
                by_cases h24 : y < 24
                · skip
                  have e : y = 23 := by omega
                  subst e; cases hy
                · skip
                  have e : y = 24 := by omega
                  subst e; cases hy
              · skip
                by_cases h26 : y < 26
                · skip
                  have e : y = 25 := by omega
                  subst e; cases hy
                · skip
                  have e : y = 26 := by omega
                  subst e; cases hy
            · skip
              by_cases h29 : y < 29
              · skip
                by_cases h28 : y < 28
                · skip
                  have e : y = 27 := by omega
                  subst e; cases hy
                · skip
                  have e : y = 28 := by omega
                  subst e; cases hy
              · skip
                by_cases h30 : y < 30
                · skip
                  have e : y = 29 := by omega
                  subst e; cases hy
                · skip
                  have e : y = 30 := by omega
                  subst e; cases hy
      · skip
        by_cases h47 : y < 47
        · skip
          by_cases h39 : y < 39
          · skip
            by_cases h35 : y < 35
            · skip
              by_cases h33 : y < 33
              · skip
                by_cases h32 : y < 32
                · skip
                  have e : y = 31 := by omega
                  subst e; cases hy
                · skip
                  have e : y = 32 := by omega
                  subst e; cases hy
              · skip
                by_cases h34 : y < 34
                · skip
                  have e : y = 33 := by omega
                  subst e; cases hy
                · skip
                  have e : y = 34 := by omega
                  subst e; cases hy
            · skip
              by_cases h37 : y < 37
              · skip
                by_cases h36 : y < 36
                · skip
                  have e : y = 35 := by omega
                  subst e; cases hy
                · skip
                  have e : y = 36 := by omega
                  subst e; cases hy
              · skip
                by_cases h38 : y < 38
                · skip
                  have e : y = 37 := by omega
                  subst e; cases hy
                · skip
                  have e : y = 38 := by omega
                  subst e; cases hy
          · skip
            by_cases h43 : y < 43
            · skip
              by_cases h41 : y < 41
              · skip
                by_cases h40 : y < 40
                · skip
                  have e : y = 39 := by omega
                  subst e; cases hy
                · skip
                  have e : y = 40 := by omega
                  subst e; cases hy
              · skip
                by_cases h42 : y < 42
                · skip
                  have e : y = 41 := by omega
                  subst e; cases hy
                · skip
                  have e : y = 42 := by omega
                  subst e; cases hy
            · skip
              by_cases h45 : y < 45
              · skip
                by_cases h44 : y < 44
                · skip
                  have e : y = 43 := by omega
                  subst e; cases hy
                · skip
                  have e : y = 44 := by omega
                  subst e; exact zinst_44
              · skip
                by_cases h46 : y < 46
                · skip
                  have e : y = 45 := by omega
                  subst e; cases hy
                · skip
                  have e : y = 46 := by omega
                  subst e; cases hy
        · skip
          by_cases h55 : y < 55
          · skip
            by_cases h51 : y < 51
            · skip
              by_cases h49 : y < 49
              · skip
                by_cases h48 : y < 48
                · skip
                  have e : y = 47 := by omega
                  subst e; cases hy
                · skip
                  have e : y = 48 := by omega
                  subst e; exact zinst_48
              · skip
                by_cases h50 : y < 50
                · skip
                  have e : y = 49 := by omega
                  subst e; cases hy
                · skip
                  have e : y = 50 := by omega
                  subst e; cases hy
            · skip
              by_cases h53 : y < 53
              · skip
                by_cases h52 : y < 52
                · skip
                  have e : y = 51 := by omega
                  subst e; cases hy
                · skip
                  have e : y = 52 := by omega
                  subst e; cases hy
              · skip
                by_cases h54 : y < 54
                · skip
                  have e : y = 53 := by omega
                  subst e; cases hy
                · skip
                  have e : y = 54 := by omega
                  subst e; cases hy
          · skip
            by_cases h59 : y < 59
            · skip
              by_cases h57 : y < 57
              · skip
                by_cases h56 : y < 56
                · skip
                  have e : y = 55 := by omega
                  subst e; cases hy
                · skip
                  have e : y = 56 := by omega
                  subst e; exact zinst_56
              · skip
                by_cases h58 : y < 58
                · skip
                  have e : y = 57 := by omega
                  subst e; cases hy
                · skip
                  have e : y = 58 := by omega
                  subst e; cases hy
            · skip
              by_cases h61 : y < 61
              · skip
                by_cases h60 : y < 60
                · skip
                  have e : y = 59 := by omega
                  subst e; cases hy
                · skip
                  have e : y = 60 := by omega
                  subst e; cases hy
              · skip
                by_cases h62 : y < 62
                · skip
                  have e : y = 61 := by omega
                  subst e; cases hy
                · skip
                  have e : y = 62 := by omega
                  subst e; cases hy
    · skip
      by_cases h95 : y < 95
      · skip
        by_cases h79 : y < 79
        · skip
          by_cases h71 : y < 71
          · skip
            by_cases h67 : y < 67
            · skip
              by_cases h65 : y < 65
              · skip
                by_cases h64 : y < 64
                · skip
                  have e : y = 63 := by omega
                  subst e; cases hy
                · skip
                  have e : y = 64 := by omega
                  subst e; cases hy
              · skip
                by_cases h66 : y < 66
                · skip
                  have e : y = 65 := by omega
                  subst e; cases hy
                · skip
                  have e : y = 66 := by omega
                  subst e; cases hy
            · skip
              by_cases h69 : y < 69
              · skip
                by_cases h68 : y < 68
                · skip
                  have e : y = 67 := by omega
                  subst e; exact zinst_67
                · skip
                  have e : y = 68 := by omega
                  subst e; exact zinst_68
              · skip
                by_cases h70 : y < 70
                · skip
                  have e : y = 69 := by omega
                  subst e; exact zinst_69
                · skip
                  have e : y = 70 := by omega
                  subst e; cases hy
          · skip
            by_cases h75 : y < 75
            · skip
              by_cases h73 : y < 73
              · skip
                by_cases h72 : y < 72
                · skip
                  have e : y = 71 := by omega
                  subst e; cases hy
                · skip
                  have e : y = 72 := by omega
                  subst e; cases hy
              · skip
                by_cases h74 : y < 74
                · skip
                  have e : y = 73 := by omega
                  subst e; cases hy
                · skip
                  have e : y = 74 := by omega
                  subst e; cases hy
            · skip
              by_cases h77 : y < 77
              · skip
                by_cases h76 : y < 76
                · skip
                  have e : y = 75 := by omega
                  subst e; cases hy
                · skip
                  have e : y = 76 := by omega
                  subst e; cases hy
              · skip
                by_cases h78 : y < 78
                · skip
                  have e : y = 77 := by omega
                  subst e; cases hy
                · skip
                  have e : y = 78 := by omega
                  subst e; exact zinst_78
        · skip
          by_cases h87 : y < 87
          · skip
            by_cases h83 : y < 83
            · skip
              by_cases h81 : y < 81
              · skip
                by_cases h80 : y < 80
                · skip
                  have e : y = 79 := by omega
                  subst e; cases hy
                · skip
                  have e : y = 80 := by omega
                  subst e; cases hy
              · skip
                by_cases h82 : y < 82
                · skip
                  have e : y = 81 := by omega
                  subst e; cases hy
                · skip
                  have e : y = 82 := by omega
                  subst e; cases hy
            · skip
              by_cases h85 : y < 85
              · skip
                by_cases h84 : y < 84
                · skip
                  have e : y = 83 := by omega
                  subst e; cases hy
                · skip
                  have e : y = 84 := by omega
                  subst e; cases hy
              · skip
                by_cases h86 : y < 86
                · skip
                  have e : y = 85 := by omega
                  subst e; exact zinst_85
                · skip
                  have e : y = 86 := by omega
                  subst e; cases hy
          · skip
            by_cases h91 : y < 91
            · skip
              by_cases h89 : y < 89
              · skip
                by_cases h88 : y < 88
                · skip
                  have e : y = 87 := by omega
                  subst e; cases hy
                · skip
                  have e : y = 88 := by omega
                  subst e; cases hy
              · skip
                by_cases h90 : y < 90
                · skip
                  have e : y = 89 := by omega
                  subst e; cases hy
                · skip
                  have e : y = 90 := by omega
                  subst e; cases hy
            · skip
              by_cases h93 : y < 93
              · skip
                by_cases h92 : y < 92
                · skip
                  have e : y = 91 := by omega
                  subst e; cases hy
                · skip
                  have e : y = 92 := by omega
                  subst e; cases hy
              · skip
                by_cases h94 : y < 94
                · skip
                  have e : y = 93 := by omega
                  subst e; cases hy
                · skip
                  have e : y = 94 := by omega
                  subst e; cases hy
      · skip
        by_cases h111 : y < 111
        · skip
          by_cases h103 : y < 103
          · skip
            by_cases h99 : y < 99
            · skip
              by_cases h97 : y < 97
              · skip
                by_cases h96 : y < 96
                · skip
                  have e : y = 95 := by omega
                  subst e; cases hy
                · skip
                  have e : y = 96 := by omega
                  subst e; cases hy
              · skip
                by_cases h98 : y < 98
                · skip
                  have e : y = 97 := by omega
                  subst e; cases hy
                · skip
                  have e : y = 98 := by omega
                  subst e; cases hy
            · skip
              by_cases h101 : y < 101
              · skip
                by_cases h100 : y < 100
                · skip
                  have e : y = 99 := by omega
                  subst e; cases hy
                · skip
                  have e : y = 100 := by omega
                  subst e; cases hy
              · skip
                by_cases h102 : y < 102
                · skip
                  have e : y = 101 := by omega
                  subst e; cases hy
                · skip
                  have e : y = 102 := by omega
                  subst e; cases hy
          · skip
            by_cases h107 : y < 107
            · skip
              by_cases h105 : y < 105
              · skip
                by_cases h104 : y < 104
                · skip
                  have e : y = 103 := by omega
                  subst e; cases hy
                · skip
                  have e : y = 104 := by omega
                  subst e; cases hy
              · skip
                by_cases h106 : y < 106
                · skip
                  have e : y = 105 := by omega
                  subst e; cases hy
                · skip
                  have e : y = 106 := by omega
                  subst e; exact zinst_106
            · skip
              by_cases h109 : y < 109
              · skip
                by_cases h108 : y < 108
                · skip
                  have e : y = 107 := by omega
                  subst e; exact zinst_107
                · skip
                  have e : y = 108 := by omega
                  subst e; cases hy
              · skip
                by_cases h110 : y < 110
                · skip
                  have e : y = 109 := by omega
                  subst e; cases hy
                · skip
                  have e : y = 110 := by omega
                  subst e; cases hy
        · skip
          by_cases h119 : y < 119
          · skip
            by_cases h115 : y < 115
            · skip
              by_cases h113 : y < 113
              · skip
                by_cases h112 : y < 112
                · skip
                  have e : y = 111 := by omega
                  subst e; cases hy
                · skip
                  have e : y = 112 := by omega
                  subst e; cases hy
              · skip
                by_cases h114 : y < 114
                · skip
                  have e : y = 113 := by omega
                  subst e; cases hy
                · skip
                  have e : y = 114 := by omega
                  subst e; cases hy
            · skip
              by_cases h117 : y < 117
              · skip
                by_cases h116 : y < 116
                · skip
                  have e : y = 115 := by omega
                  subst e; cases hy
                · skip
                  have e : y = 116 := by omega
                  subst e; cases hy
              · skip
                by_cases h118 : y < 118
                · skip
                  have e : y = 117 := by omega
                  subst e; cases hy
                · skip
                  have e : y = 118 := by omega
                  subst e; cases hy
          · skip
            by_cases h123 : y < 123
            · skip
              by_cases h121 : y < 121
              · skip
                by_cases h120 : y < 120
                · skip
                  have e : y = 119 := by omega
                  subst e; cases hy
                · skip
                  have e : y = 120 := by omega
                  subst e; cases hy
              · skip
                by_cases h122 : y < 122
                · skip
                  have e : y = 121 := by omega
                  subst e; cases hy
                · skip
                  have e : y = 122 := by omega
                  subst e; exact zinst_122
            · skip
              by_cases h125 : y < 125
              · skip
                by_cases h124 : y < 124
                · skip
                  have e : y = 123 := by omega
                  subst e; cases hy
                · skip
                  have e : y = 124 := by omega
                  subst e; cases hy
              · skip
                by_cases h126 : y < 126
                · skip
                  have e : y = 125 := by omega
                  subst e; cases hy
                · skip
                  have e : y = 126 := by omega
                  subst e; cases hy
  · skip
    by_cases h191 : y < 191
    · skip
      by_cases h159 : y < 159
      · skip
        by_cases h143 : y < 143
        · skip
          by_cases h135 : y < 135
          · skip
            by_cases h131 : y < 131
            · skip
              by_cases h129 : y < 129
              · skip
                by_cases h128 : y < 128
                · skip
                  have e : y = 127 := by omega
                  subst e; cases hy
                · skip
                  have e : y = 128 := by omega
                  subst e; cases hy
              · skip
                by_cases h130 : y < 130
                · skip
                  have e : y = 129 := by omega
                  subst e; cases hy
                · skip
                  have e : y = 130 := by omega
                  subst e; cases hy
            · skip
              by_cases h133 : y < 133
              · skip
                by_cases h132 : y < 132
                · skip
                  have e : y = 131 := by omega
                  subst e; cases hy
                · skip
                  have e : y = 132 := by omega
                  subst e; cases hy
              · skip
                by_cases h134 : y < 134
                · skip
                  have e : y = 133 := by omega
                  subst e; cases hy
                · skip
                  have e : y = 134 := by omega
                  subst e; cases hy
          · skip
            by_cases h139 : y < 139
            · skip
              by_cases h137 : y < 137
              · skip
                by_cases h136 : y < 136
                · skip
                  have e : y = 135 := by omega
                  subst e; cases hy
                · skip
                  have e : y = 136 := by omega
                  subst e; cases hy
              · skip
                by_cases h138 : y < 138
                · skip
                  have e : y = 137 := by omega
                  subst e; cases hy
                · skip
                  have e : y = 138 := by omega
                  subst e; cases hy
            · skip
              by_cases h141 : y < 141
              · skip
                by_cases h140 : y < 140
                · skip
                  have e : y = 139 := by omega
                  subst e; cases hy
                · skip
                  have e : y = 140 := by omega
                  subst e; cases hy
              · skip
                by_cases h142 : y < 142
                · skip
                  have e : y = 141 := by omega
                  subst e; cases hy
                · skip
                  have e : y = 142 := by omega
                  subst e; cases hy
        · skip
          by_cases h151 : y < 151
          · skip
            by_cases h147 : y < 147
            · skip
              by_cases h145 : y < 145
              · skip
                by_cases h144 : y < 144
                · skip
                  have e : y = 143 := by omega
                  subst e; cases hy
                · skip
                  have e : y = 144 := by omega
                  subst e; cases hy
              · skip
                by_cases h146 : y < 146
                · skip
                  have e : y = 145 := by omega
                  subst e; cases hy
                · skip
                  have e : y = 146 := by omega
                  subst e; cases hy
            · skip
              by_cases h149 : y < 149
              · skip
                by_cases h148 : y < 148
                · skip
                  have e : y = 147 := by omega
                  subst e; cases hy
                · skip
                  have e : y = 148 := by omega
                  subst e; cases hy
              · skip
                by_cases h150 : y < 150
                · skip
                  have e : y = 149 := by omega
                  subst e; cases hy
                · skip
                  have e : y = 150 := by omega
                  subst e; exact zinst_150
          · skip
            by_cases h155 : y < 155
            · skip
              by_cases h153 : y < 153
              · skip
                by_cases h152 : y < 152
                · skip
                  have e : y = 151 := by omega
                  subst e; cases hy
                · skip
                  have e : y = 152 := by omega
                  subst e; cases hy
              · skip
                by_cases h154 : y < 154
                · skip
                  have e : y = 153 := by omega
                  subst e; cases hy
                · skip
                  have e : y = 154 := by omega
                  subst e; cases hy
            · skip
              by_cases h157 : y < 157
              · skip
                by_cases h156 : y < 156
                · skip
                  have e : y = 155 := by omega
                  subst e; cases hy
                · skip
                  have e : y = 156 := by omega
                  subst e; cases hy
              · skip
                by_cases h158 : y < 158
                · skip
                  have e : y = 157 := by omega
                  subst e; cases hy
                · skip
                  have e : y = 158 := by omega
                  subst e; cases hy
      · skip
        by_cases h175 : y < 175
        · skip
          by_cases h167 : y < 167
          · skip
            by_cases h163 : y < 163
            · skip
              by_cases h161 : y < 161
              · skip
                by_cases h160 : y < 160
                · skip
                  have e : y = 159 := by omega
                  subst e; cases hy
                · skip
                  have e : y = 160 := by omega
                  subst e; cases hy
              · skip
                by_cases h162 : y < 162
                · skip
                  have e : y = 161 := by omega
                  subst e; cases hy
                · skip
                  have e : y = 162 := by omega
                  subst e; cases hy
            · skip
              by_cases h165 : y < 165
              · skip
                by_cases h164 : y < 164
                · skip
                  have e : y = 163 := by omega
                  subst e; cases hy
                · skip
                  have e : y = 164 := by omega
                  subst e; cases hy
              · skip
                by_cases h166 : y < 166
                · skip
                  have e : y = 165 := by omega
                  subst e; cases hy
                · skip
                  have e : y = 166 := by omega
                  subst e; cases hy
          · skip
            by_cases h171 : y < 171
            · skip
              by_cases h169 : y < 169
              · skip
                by_cases h168 : y < 168
                · skip
                  have e : y = 167 := by omega
                  subst e; cases hy
                · skip
                  have e : y = 168 := by omega
                  subst e; cases hy
              · skip
                by_cases h170 : y < 170
                · skip
                  have e : y = 169 := by omega
                  subst e; cases hy
                · skip
                  have e : y = 170 := by omega
                  subst e; exact zinst_170
            · skip
              by_cases h173 : y < 173
              · skip
                by_cases h172 : y < 172
                · skip
                  have e : y = 171 := by omega
                  subst e; cases hy
                · skip
                  have e : y = 172 := by omega
                  subst e; cases hy
              · skip
                by_cases h174 : y < 174
                · skip
                  have e : y = 173 := by omega
                  subst e; cases hy
                · skip
                  have e : y = 174 := by omega
                  subst e; cases hy
        · skip
          by_cases h183 : y < 183
          · skip
            by_cases h179 : y < 179
            · skip
              by_cases h177 : y < 177
              · skip
                by_cases h176 : y < 176
                · skip
                  have e : y = 175 := by omega
                  subst e; cases hy
                · skip
                  have e : y = 176 := by omega
                  subst e; cases hy
              · skip
                by_cases h178 : y < 178
                · skip
                  have e : y = 177 := by omega
                  subst e; cases hy
                · skip
                  have e : y = 178 := by omega
                  subst e; cases hy
            · skip
              by_cases h181 : y < 181
              · skip
                by_cases h180 : y < 180
                · skip
                  have e : y = 179 := by omega
                  subst e; cases hy
                · skip
                  have e : y = 180 := by omega
                  subst e; cases hy
              · skip
                by_cases h182 : y < 182
                · skip
                  have e : y = 181 := by omega
                  subst e; cases hy
                · skip
                  have e : y = 182 := by omega
                  subst e; cases hy
          · skip
            by_cases h187 : y < 187
            · skip
              by_cases h185 : y < 185
              · skip
                by_cases h184 : y < 184
                · skip
                  have e : y = 183 := by omega
                  subst e; cases hy
                · skip
                  have e : y = 184 := by omega
                  subst e; cases hy
              · skip
                by_cases h186 : y < 186
                · skip
                  have e : y = 185 := by omega
                  subst e; cases hy
                · skip
                  have e : y = 186 := by omega
                  subst e; cases hy
            · skip
              by_cases h189 : y < 189
              · skip
                by_cases h188 : y < 188
                · skip
                  have e : y = 187 := by omega
                  subst e; cases hy
                · skip
                  have e : y = 188 := by omega
                  subst e; cases hy
              · skip
                by_cases h190 : y < 190
                · skip
                  have e : y = 189 := by omega
                  subst e; cases hy
                · skip
                  have e : y = 190 := by omega
                  subst e; cases hy
    · skip
      by_cases h223 : y < 223
      · skip
        by_cases h207 : y < 207
        · skip
          by_cases h199 : y < 199
          · skip
            by_cases h195 : y < 195
            · skip
              by_cases h193 : y < 193
              · skip
                by_cases h192 : y < 192
                · skip
                  have e : y = 191 := by omega
                  subst e; cases hy
                · skip
                  have e : y = 192 := by omega
                  subst e; cases hy
              · skip
                by_cases h194 : y < 194
                · skip
                  have e : y = 193 := by omega
                  subst e; cases hy
                · skip
                  have e : y = 194 := by omega
                  subst e; exact zinst_194
            · skip
              by_cases h197 : y < 197
              · skip
                by_cases h196 : y < 196
                · skip
                  have e : y = 195 := by omega
                  subst e; cases hy
                · skip
                  have e : y = 196 := by omega
                  subst e; cases hy
              · skip
                by_cases h198 : y < 198
                · skip
                  have e : y = 197 := by omega
                  subst e; cases hy
                · skip
                  have e : y = 198 := by omega
                  subst e; cases hy
          · skip
            by_cases h203 : y < 203
            · skip
              by_cases h201 : y < 201
              · skip
                by_cases h200 : y < 200
                · skip
                  have e : y = 199 := by omega
                  subst e; cases hy
                · skip
                  have e : y = 200 := by omega
                  subst e; cases hy
              · skip
                by_cases h202 : y < 202
                · skip
                  have e : y = 201 := by omega
                  subst e; cases hy
                · skip
                  have e : y = 202 := by omega
                  subst e; exact zinst_202
            · skip
              by_cases h205 : y < 205
              · skip
                by_cases h204 : y < 204
                · skip
                  have e : y = 203 := by omega
                  subst e; cases hy
                · skip
                  have e : y = 204 := by omega
                  subst e; cases hy
              · skip
                by_cases h206 : y < 206
                · skip
                  have e : y = 205 := by omega
                  subst e; cases hy
                · skip
                  have e : y = 206 := by omega
                  subst e; cases hy
        · skip
          by_cases h215 : y < 215
          · skip
            by_cases h211 : y < 211
            · skip
              by_cases h209 : y < 209
              · skip
                by_cases h208 : y < 208
                · skip
                  have e : y = 207 := by omega
                  subst e; cases hy
                · skip
                  have e : y = 208 := by omega
                  subst e; cases hy
              · skip
                by_cases h210 : y < 210
                · skip
                  have e : y = 209 := by omega
                  subst e; cases hy
                · skip
                  have e : y = 210 := by omega
                  subst e; cases hy
            · skip
              by_cases h213 : y < 213
              · skip
                by_cases h212 : y < 212
                · skip
                  have e : y = 211 := by omega
                  subst e; cases hy
                · skip
                  have e : y = 212 := by omega
                  subst e; cases hy
              · skip
                by_cases h214 : y < 214
                · skip
                  have e : y = 213 := by omega
                  subst e; cases hy
                · skip
                  have e : y = 214 := by omega
                  subst e; cases hy
          · skip
            by_cases h219 : y < 219
            · skip
              by_cases h217 : y < 217
              · skip
                by_cases h216 : y < 216
                · skip
                  have e : y = 215 := by omega
                  subst e; cases hy
                · skip
                  have e : y = 216 := by omega
                  subst e; cases hy
              · skip
                by_cases h218 : y < 218
                · skip
                  have e : y = 217 := by omega
                  subst e; cases hy
                · skip
                  have e : y = 218 := by omega
                  subst e; cases hy
            · skip
              by_cases h221 : y < 221
              · skip
                by_cases h220 : y < 220
                · skip
                  have e : y = 219 := by omega
                  subst e; cases hy
                · skip
                  have e : y = 220 := by omega
                  subst e; cases hy
              · skip
                by_cases h222 : y < 222
                · skip
                  have e : y = 221 := by omega
                  subst e; cases hy
                · skip
                  have e : y = 222 := by omega
                  subst e; cases hy
      · skip
        by_cases h239 : y < 239
        · skip
          by_cases h231 : y < 231
          · skip
            by_cases h227 : y < 227
            · skip
              by_cases h225 : y < 225
              · skip
                by_cases h224 : y < 224
                · skip
                  have e : y = 223 := by omega
                  subst e; cases hy
                · skip
                  have e : y = 224 := by omega
                  subst e; cases hy
              · skip
                by_cases h226 : y < 226
                · skip
                  have e : y = 225 := by omega
                  subst e; cases hy
                · skip
                  have e : y = 226 := by omega
                  subst e; cases hy
            · skip
              by_cases h229 : y < 229
              · skip
                by_cases h228 : y < 228
                · skip
                  have e : y = 227 := by omega
                  subst e; cases hy
                · skip
                  have e : y = 228 := by omega
                  subst e; cases hy
              · skip
                by_cases h230 : y < 230
                · skip
                  have e : y = 229 := by omega
                  subst e; cases hy
                · skip
                  have e : y = 230 := by omega
                  subst e; cases hy
          · skip
            by_cases h235 : y < 235
            · skip
              by_cases h233 : y < 233
              · skip
                by_cases h232 : y < 232
                · skip
                  have e : y = 231 := by omega
                  subst e; cases hy
                · skip
                  have e : y = 232 := by omega
                  subst e; cases hy
              · skip
                by_cases h234 : y < 234
                · skip
                  have e : y = 233 := by omega
                  subst e; cases hy
                · skip
                  have e : y = 234 := by omega
                  subst e; cases hy
            · skip
              by_cases h237 : y < 237
              · skip
                by_cases h236 : y < 236
                · skip
                  have e : y = 235 := by omega
                  subst e; cases hy
                · skip
                  have e : y = 236 := by omega
                  subst e; cases hy
              · skip
                by_cases h238 : y < 238
                · skip
                  have e : y = 237 := by omega
                  subst e; cases hy
                · skip
                  have e : y = 238 := by omega
                  subst e; cases hy
        · skip
          by_cases h247 : y < 247
          · skip
            by_cases h243 : y < 243
            · skip
              by_cases h241 : y < 241
              · skip
                by_cases h240 : y < 240
                · skip
                  have e : y = 239 := by omega
                  subst e; cases hy
                · skip
                  have e : y = 240 := by omega
                  subst e; cases hy
              · skip
                by_cases h242 : y < 242
                · skip
                  have e : y = 241 := by omega
                  subst e; cases hy
                · skip
                  have e : y = 242 := by omega
                  subst e; cases hy
            · skip
              by_cases h245 : y < 245
              · skip
                by_cases h244 : y < 244
                · skip
                  have e : y = 243 := by omega
                  subst e; cases hy
                · skip
                  have e : y = 244 := by omega
                  subst e; cases hy
              · skip
                by_cases h246 : y < 246
                · skip
                  have e : y = 245 := by omega
                  subst e; cases hy
                · skip
                  have e : y = 246 := by omega
                  subst e; cases hy
          · skip
            by_cases h251 : y < 251
            · skip
              by_cases h249 : y < 249
              · skip
                by_cases h248 : y < 248
                · skip
                  have e : y = 247 := by omega
                  subst e; cases hy
                · skip
                  have e : y = 248 := by omega
                  subst e; cases hy
              · skip
                by_cases h250 : y < 250
                · skip
                  have e : y = 249 := by omega
                  subst e; cases hy
                · skip
                  have e : y = 250 := by omega
                  subst e; cases hy
            · skip
              by_cases h253 : y < 253
              · skip
                by_cases h252 : y < 252
                · skip
                  have e : y = 251 := by omega
                  subst e; cases hy
                · skip
                  have e : y = 252 := by omega
                  subst e; cases hy
              · skip
                by_cases h254 : y < 254
                · skip
                  have e : y = 253 := by omega
                  subst e; cases hy
                · skip
                  have e : y = 254 := by omega
                  subst e; cases hy
