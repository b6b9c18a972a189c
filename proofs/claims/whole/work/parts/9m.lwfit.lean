/-! the law's blocks fit the bytes -/
noncomputable def cdU (b : Nat) : List sm_I := bif ct_Law_law b then [] else cd_Law_law b
theorem fitL_1 : sm_fit RL 7 (lt_fl kLaw_law).1 (lt_fl kLaw_law).2 (some .boolean) code pc_Law_law (pc_Law_law 1) (i_Law_law_1) = true := by decide +kernel
theorem fitL_2 : sm_fit RL 7 (lt_fl kLaw_law).1 (lt_fl kLaw_law).2 (some .boolean) code pc_Law_law (pc_Law_law 2) (i_Law_law_2) = true := by decide +kernel
theorem fitL_3 : sm_fit RL 7 (lt_fl kLaw_law).1 (lt_fl kLaw_law).2 (some .boolean) code pc_Law_law (pc_Law_law 3) (i_Law_law_3) = true := by decide +kernel
theorem fitT_4 : sm_fit RL 7 (lt_fl kLaw_law).1 (lt_fl kLaw_law).2 (some .boolean) code pc_Law_law (pc_Law_law 4 + 3) ((cd_Law_law 4).tail) = true := by decide +kernel
theorem fitL_5 : sm_fit RL 7 (lt_fl kLaw_law).1 (lt_fl kLaw_law).2 (some .boolean) code pc_Law_law (pc_Law_law 5) (i_Law_law_5) = true := by decide +kernel
theorem fitL_6 : sm_fit RL 7 (lt_fl kLaw_law).1 (lt_fl kLaw_law).2 (some .boolean) code pc_Law_law (pc_Law_law 6) (i_Law_law_6) = true := by decide +kernel
theorem fitL_7 : sm_fit RL 7 (lt_fl kLaw_law).1 (lt_fl kLaw_law).2 (some .boolean) code pc_Law_law (pc_Law_law 7) (i_Law_law_7) = true := by decide +kernel
theorem fitL_8 : sm_fit RL 7 (lt_fl kLaw_law).1 (lt_fl kLaw_law).2 (some .boolean) code pc_Law_law (pc_Law_law 8) (i_Law_law_8) = true := by decide +kernel
theorem fitL_9 : sm_fit RL 7 (lt_fl kLaw_law).1 (lt_fl kLaw_law).2 (some .boolean) code pc_Law_law (pc_Law_law 9) (i_Law_law_9) = true := by decide +kernel
theorem fitL_10 : sm_fit RL 7 (lt_fl kLaw_law).1 (lt_fl kLaw_law).2 (some .boolean) code pc_Law_law (pc_Law_law 10) (i_Law_law_10) = true := by decide +kernel
theorem fitT_11 : sm_fit RL 7 (lt_fl kLaw_law).1 (lt_fl kLaw_law).2 (some .boolean) code pc_Law_law (pc_Law_law 11 + 3) ((cd_Law_law 11).tail) = true := by decide +kernel
theorem fitL_12 : sm_fit RL 7 (lt_fl kLaw_law).1 (lt_fl kLaw_law).2 (some .boolean) code pc_Law_law (pc_Law_law 12) (i_Law_law_12) = true := by decide +kernel
theorem fitL_13 : sm_fit RL 7 (lt_fl kLaw_law).1 (lt_fl kLaw_law).2 (some .boolean) code pc_Law_law (pc_Law_law 13) (i_Law_law_13) = true := by decide +kernel
theorem fitL_14 : sm_fit RL 7 (lt_fl kLaw_law).1 (lt_fl kLaw_law).2 (some .boolean) code pc_Law_law (pc_Law_law 14) (i_Law_law_14) = true := by decide +kernel
theorem fitL_15 : sm_fit RL 7 (lt_fl kLaw_law).1 (lt_fl kLaw_law).2 (some .boolean) code pc_Law_law (pc_Law_law 15) (i_Law_law_15) = true := by decide +kernel
theorem fitL_16 : sm_fit RL 7 (lt_fl kLaw_law).1 (lt_fl kLaw_law).2 (some .boolean) code pc_Law_law (pc_Law_law 16) (i_Law_law_16) = true := by decide +kernel
theorem fitL_17 : sm_fit RL 7 (lt_fl kLaw_law).1 (lt_fl kLaw_law).2 (some .boolean) code pc_Law_law (pc_Law_law 17) (i_Law_law_17) = true := by decide +kernel
theorem fitT_18 : sm_fit RL 7 (lt_fl kLaw_law).1 (lt_fl kLaw_law).2 (some .boolean) code pc_Law_law (pc_Law_law 18 + 3) ((cd_Law_law 18).tail) = true := by decide +kernel
theorem fitL_19 : sm_fit RL 7 (lt_fl kLaw_law).1 (lt_fl kLaw_law).2 (some .boolean) code pc_Law_law (pc_Law_law 19) (i_Law_law_19) = true := by decide +kernel
theorem fitL_20 : sm_fit RL 7 (lt_fl kLaw_law).1 (lt_fl kLaw_law).2 (some .boolean) code pc_Law_law (pc_Law_law 20) (i_Law_law_20) = true := by decide +kernel
theorem fitL_21 : sm_fit RL 7 (lt_fl kLaw_law).1 (lt_fl kLaw_law).2 (some .boolean) code pc_Law_law (pc_Law_law 21) (i_Law_law_21) = true := by decide +kernel
theorem fitL_22 : sm_fit RL 7 (lt_fl kLaw_law).1 (lt_fl kLaw_law).2 (some .boolean) code pc_Law_law (pc_Law_law 22) (i_Law_law_22) = true := by decide +kernel
theorem fitL_23 : sm_fit RL 7 (lt_fl kLaw_law).1 (lt_fl kLaw_law).2 (some .boolean) code pc_Law_law (pc_Law_law 23) (i_Law_law_23) = true := by decide +kernel
theorem fitL_24 : sm_fit RL 7 (lt_fl kLaw_law).1 (lt_fl kLaw_law).2 (some .boolean) code pc_Law_law (pc_Law_law 24) (i_Law_law_24) = true := by decide +kernel
theorem fitT_25 : sm_fit RL 7 (lt_fl kLaw_law).1 (lt_fl kLaw_law).2 (some .boolean) code pc_Law_law (pc_Law_law 25 + 3) ((cd_Law_law 25).tail) = true := by decide +kernel
theorem fitL_26 : sm_fit RL 7 (lt_fl kLaw_law).1 (lt_fl kLaw_law).2 (some .boolean) code pc_Law_law (pc_Law_law 26) (i_Law_law_26) = true := by decide +kernel
theorem fitL_27 : sm_fit RL 7 (lt_fl kLaw_law).1 (lt_fl kLaw_law).2 (some .boolean) code pc_Law_law (pc_Law_law 27) (i_Law_law_27) = true := by decide +kernel
theorem fitL_28 : sm_fit RL 7 (lt_fl kLaw_law).1 (lt_fl kLaw_law).2 (some .boolean) code pc_Law_law (pc_Law_law 28) (i_Law_law_28) = true := by decide +kernel
theorem fitL_29 : sm_fit RL 7 (lt_fl kLaw_law).1 (lt_fl kLaw_law).2 (some .boolean) code pc_Law_law (pc_Law_law 29) (i_Law_law_29) = true := by decide +kernel
theorem fitL_30 : sm_fit RL 7 (lt_fl kLaw_law).1 (lt_fl kLaw_law).2 (some .boolean) code pc_Law_law (pc_Law_law 30) (i_Law_law_30) = true := by decide +kernel
theorem fitL_31 : sm_fit RL 7 (lt_fl kLaw_law).1 (lt_fl kLaw_law).2 (some .boolean) code pc_Law_law (pc_Law_law 31) (i_Law_law_31) = true := by decide +kernel
theorem fitT_32 : sm_fit RL 7 (lt_fl kLaw_law).1 (lt_fl kLaw_law).2 (some .boolean) code pc_Law_law (pc_Law_law 32 + 3) ((cd_Law_law 32).tail) = true := by decide +kernel
theorem fitL_33 : sm_fit RL 7 (lt_fl kLaw_law).1 (lt_fl kLaw_law).2 (some .boolean) code pc_Law_law (pc_Law_law 33) (i_Law_law_33) = true := by decide +kernel
theorem fitL_34 : sm_fit RL 7 (lt_fl kLaw_law).1 (lt_fl kLaw_law).2 (some .boolean) code pc_Law_law (pc_Law_law 34) (i_Law_law_34) = true := by decide +kernel
theorem fitL_35 : sm_fit RL 7 (lt_fl kLaw_law).1 (lt_fl kLaw_law).2 (some .boolean) code pc_Law_law (pc_Law_law 35) (i_Law_law_35) = true := by decide +kernel
theorem fitL_36 : sm_fit RL 7 (lt_fl kLaw_law).1 (lt_fl kLaw_law).2 (some .boolean) code pc_Law_law (pc_Law_law 36) (i_Law_law_36) = true := by decide +kernel
theorem fitL_37 : sm_fit RL 7 (lt_fl kLaw_law).1 (lt_fl kLaw_law).2 (some .boolean) code pc_Law_law (pc_Law_law 37) (i_Law_law_37) = true := by decide +kernel
theorem fitL_38 : sm_fit RL 7 (lt_fl kLaw_law).1 (lt_fl kLaw_law).2 (some .boolean) code pc_Law_law (pc_Law_law 38) (i_Law_law_38) = true := by decide +kernel
theorem fitT_39 : sm_fit RL 7 (lt_fl kLaw_law).1 (lt_fl kLaw_law).2 (some .boolean) code pc_Law_law (pc_Law_law 39 + 3) ((cd_Law_law 39).tail) = true := by decide +kernel
theorem fitL_40 : sm_fit RL 7 (lt_fl kLaw_law).1 (lt_fl kLaw_law).2 (some .boolean) code pc_Law_law (pc_Law_law 40) (i_Law_law_40) = true := by decide +kernel
theorem fitL_41 : sm_fit RL 7 (lt_fl kLaw_law).1 (lt_fl kLaw_law).2 (some .boolean) code pc_Law_law (pc_Law_law 41) (i_Law_law_41) = true := by decide +kernel
theorem fitL_42 : sm_fit RL 7 (lt_fl kLaw_law).1 (lt_fl kLaw_law).2 (some .boolean) code pc_Law_law (pc_Law_law 42) (i_Law_law_42) = true := by decide +kernel
theorem fitL_43 : sm_fit RL 7 (lt_fl kLaw_law).1 (lt_fl kLaw_law).2 (some .boolean) code pc_Law_law (pc_Law_law 43) (i_Law_law_43) = true := by decide +kernel
theorem fitL_44 : sm_fit RL 7 (lt_fl kLaw_law).1 (lt_fl kLaw_law).2 (some .boolean) code pc_Law_law (pc_Law_law 44) (i_Law_law_44) = true := by decide +kernel
theorem fitL_45 : sm_fit RL 7 (lt_fl kLaw_law).1 (lt_fl kLaw_law).2 (some .boolean) code pc_Law_law (pc_Law_law 45) (i_Law_law_45) = true := by decide +kernel
theorem fitT_46 : sm_fit RL 7 (lt_fl kLaw_law).1 (lt_fl kLaw_law).2 (some .boolean) code pc_Law_law (pc_Law_law 46 + 3) ((cd_Law_law 46).tail) = true := by decide +kernel
theorem fitL_47 : sm_fit RL 7 (lt_fl kLaw_law).1 (lt_fl kLaw_law).2 (some .boolean) code pc_Law_law (pc_Law_law 47) (i_Law_law_47) = true := by decide +kernel
theorem fitL_48 : sm_fit RL 7 (lt_fl kLaw_law).1 (lt_fl kLaw_law).2 (some .boolean) code pc_Law_law (pc_Law_law 48) (i_Law_law_48) = true := by decide +kernel
theorem fitL_49 : sm_fit RL 7 (lt_fl kLaw_law).1 (lt_fl kLaw_law).2 (some .boolean) code pc_Law_law (pc_Law_law 49) (i_Law_law_49) = true := by decide +kernel
theorem fitL_50 : sm_fit RL 7 (lt_fl kLaw_law).1 (lt_fl kLaw_law).2 (some .boolean) code pc_Law_law (pc_Law_law 50) (i_Law_law_50) = true := by decide +kernel
theorem fitL_51 : sm_fit RL 7 (lt_fl kLaw_law).1 (lt_fl kLaw_law).2 (some .boolean) code pc_Law_law (pc_Law_law 51) (i_Law_law_51) = true := by decide +kernel
theorem fitL_52 : sm_fit RL 7 (lt_fl kLaw_law).1 (lt_fl kLaw_law).2 (some .boolean) code pc_Law_law (pc_Law_law 52) (i_Law_law_52) = true := by decide +kernel
theorem fitT_53 : sm_fit RL 7 (lt_fl kLaw_law).1 (lt_fl kLaw_law).2 (some .boolean) code pc_Law_law (pc_Law_law 53 + 3) ((cd_Law_law 53).tail) = true := by decide +kernel
theorem fitL_54 : sm_fit RL 7 (lt_fl kLaw_law).1 (lt_fl kLaw_law).2 (some .boolean) code pc_Law_law (pc_Law_law 54) (i_Law_law_54) = true := by decide +kernel
theorem fitL_55 : sm_fit RL 7 (lt_fl kLaw_law).1 (lt_fl kLaw_law).2 (some .boolean) code pc_Law_law (pc_Law_law 55) (i_Law_law_55) = true := by decide +kernel
theorem fitL_56 : sm_fit RL 7 (lt_fl kLaw_law).1 (lt_fl kLaw_law).2 (some .boolean) code pc_Law_law (pc_Law_law 56) (i_Law_law_56) = true := by decide +kernel
theorem fitL_57 : sm_fit RL 7 (lt_fl kLaw_law).1 (lt_fl kLaw_law).2 (some .boolean) code pc_Law_law (pc_Law_law 57) (i_Law_law_57) = true := by decide +kernel
theorem fitL_58 : sm_fit RL 7 (lt_fl kLaw_law).1 (lt_fl kLaw_law).2 (some .boolean) code pc_Law_law (pc_Law_law 58) (i_Law_law_58) = true := by decide +kernel
theorem fitL_59 : sm_fit RL 7 (lt_fl kLaw_law).1 (lt_fl kLaw_law).2 (some .boolean) code pc_Law_law (pc_Law_law 59) (i_Law_law_59) = true := by decide +kernel
theorem fitT_60 : sm_fit RL 7 (lt_fl kLaw_law).1 (lt_fl kLaw_law).2 (some .boolean) code pc_Law_law (pc_Law_law 60 + 3) ((cd_Law_law 60).tail) = true := by decide +kernel
theorem fitL_61 : sm_fit RL 7 (lt_fl kLaw_law).1 (lt_fl kLaw_law).2 (some .boolean) code pc_Law_law (pc_Law_law 61) (i_Law_law_61) = true := by decide +kernel
theorem fitL_62 : sm_fit RL 7 (lt_fl kLaw_law).1 (lt_fl kLaw_law).2 (some .boolean) code pc_Law_law (pc_Law_law 62) (i_Law_law_62) = true := by decide +kernel
theorem fitL_63 : sm_fit RL 7 (lt_fl kLaw_law).1 (lt_fl kLaw_law).2 (some .boolean) code pc_Law_law (pc_Law_law 63) (i_Law_law_63) = true := by decide +kernel
theorem fitL_64 : sm_fit RL 7 (lt_fl kLaw_law).1 (lt_fl kLaw_law).2 (some .boolean) code pc_Law_law (pc_Law_law 64) (i_Law_law_64) = true := by decide +kernel
theorem fitL_65 : sm_fit RL 7 (lt_fl kLaw_law).1 (lt_fl kLaw_law).2 (some .boolean) code pc_Law_law (pc_Law_law 65) (i_Law_law_65) = true := by decide +kernel
theorem fitL_66 : sm_fit RL 7 (lt_fl kLaw_law).1 (lt_fl kLaw_law).2 (some .boolean) code pc_Law_law (pc_Law_law 66) (i_Law_law_66) = true := by decide +kernel
theorem fitT_67 : sm_fit RL 7 (lt_fl kLaw_law).1 (lt_fl kLaw_law).2 (some .boolean) code pc_Law_law (pc_Law_law 67 + 3) ((cd_Law_law 67).tail) = true := by decide +kernel
theorem fitL_68 : sm_fit RL 7 (lt_fl kLaw_law).1 (lt_fl kLaw_law).2 (some .boolean) code pc_Law_law (pc_Law_law 68) (i_Law_law_68) = true := by decide +kernel
theorem fitL_69 : sm_fit RL 7 (lt_fl kLaw_law).1 (lt_fl kLaw_law).2 (some .boolean) code pc_Law_law (pc_Law_law 69) (i_Law_law_69) = true := by decide +kernel
theorem fitL_70 : sm_fit RL 7 (lt_fl kLaw_law).1 (lt_fl kLaw_law).2 (some .boolean) code pc_Law_law (pc_Law_law 70) (i_Law_law_70) = true := by decide +kernel
theorem fitL_71 : sm_fit RL 7 (lt_fl kLaw_law).1 (lt_fl kLaw_law).2 (some .boolean) code pc_Law_law (pc_Law_law 71) (i_Law_law_71) = true := by decide +kernel
theorem fitL_72 : sm_fit RL 7 (lt_fl kLaw_law).1 (lt_fl kLaw_law).2 (some .boolean) code pc_Law_law (pc_Law_law 72) (i_Law_law_72) = true := by decide +kernel
theorem fitL_73 : sm_fit RL 7 (lt_fl kLaw_law).1 (lt_fl kLaw_law).2 (some .boolean) code pc_Law_law (pc_Law_law 73) (i_Law_law_73) = true := by decide +kernel
theorem fitT_74 : sm_fit RL 7 (lt_fl kLaw_law).1 (lt_fl kLaw_law).2 (some .boolean) code pc_Law_law (pc_Law_law 74 + 3) ((cd_Law_law 74).tail) = true := by decide +kernel
theorem fitL_75 : sm_fit RL 7 (lt_fl kLaw_law).1 (lt_fl kLaw_law).2 (some .boolean) code pc_Law_law (pc_Law_law 75) (i_Law_law_75) = true := by decide +kernel
theorem fitL_76 : sm_fit RL 7 (lt_fl kLaw_law).1 (lt_fl kLaw_law).2 (some .boolean) code pc_Law_law (pc_Law_law 76) (i_Law_law_76) = true := by decide +kernel
theorem fitL_77 : sm_fit RL 7 (lt_fl kLaw_law).1 (lt_fl kLaw_law).2 (some .boolean) code pc_Law_law (pc_Law_law 77) (i_Law_law_77) = true := by decide +kernel
theorem fitL_78 : sm_fit RL 7 (lt_fl kLaw_law).1 (lt_fl kLaw_law).2 (some .boolean) code pc_Law_law (pc_Law_law 78) (i_Law_law_78) = true := by decide +kernel
theorem fitL_79 : sm_fit RL 7 (lt_fl kLaw_law).1 (lt_fl kLaw_law).2 (some .boolean) code pc_Law_law (pc_Law_law 79) (i_Law_law_79) = true := by decide +kernel
theorem fitL_80 : sm_fit RL 7 (lt_fl kLaw_law).1 (lt_fl kLaw_law).2 (some .boolean) code pc_Law_law (pc_Law_law 80) (i_Law_law_80) = true := by decide +kernel
theorem fitL_81 : sm_fit RL 7 (lt_fl kLaw_law).1 (lt_fl kLaw_law).2 (some .boolean) code pc_Law_law (pc_Law_law 81) (i_Law_law_81) = true := by decide +kernel
theorem fitL_82 : sm_fit RL 7 (lt_fl kLaw_law).1 (lt_fl kLaw_law).2 (some .boolean) code pc_Law_law (pc_Law_law 82) (i_Law_law_82) = true := by decide +kernel
theorem fitL_83 : sm_fit RL 7 (lt_fl kLaw_law).1 (lt_fl kLaw_law).2 (some .boolean) code pc_Law_law (pc_Law_law 83) (i_Law_law_83) = true := by decide +kernel
theorem fitL_84 : sm_fit RL 7 (lt_fl kLaw_law).1 (lt_fl kLaw_law).2 (some .boolean) code pc_Law_law (pc_Law_law 84) (i_Law_law_84) = true := by decide +kernel
theorem fitT_85 : sm_fit RL 7 (lt_fl kLaw_law).1 (lt_fl kLaw_law).2 (some .boolean) code pc_Law_law (pc_Law_law 85 + 3) ((cd_Law_law 85).tail) = true := by decide +kernel
theorem fitL_86 : sm_fit RL 7 (lt_fl kLaw_law).1 (lt_fl kLaw_law).2 (some .boolean) code pc_Law_law (pc_Law_law 86) (i_Law_law_86) = true := by decide +kernel
theorem fitL_87 : sm_fit RL 7 (lt_fl kLaw_law).1 (lt_fl kLaw_law).2 (some .boolean) code pc_Law_law (pc_Law_law 87) (i_Law_law_87) = true := by decide +kernel
theorem fitL_88 : sm_fit RL 7 (lt_fl kLaw_law).1 (lt_fl kLaw_law).2 (some .boolean) code pc_Law_law (pc_Law_law 88) (i_Law_law_88) = true := by decide +kernel
theorem fitL_89 : sm_fit RL 7 (lt_fl kLaw_law).1 (lt_fl kLaw_law).2 (some .boolean) code pc_Law_law (pc_Law_law 89) (i_Law_law_89) = true := by decide +kernel
theorem fitL_90 : sm_fit RL 7 (lt_fl kLaw_law).1 (lt_fl kLaw_law).2 (some .boolean) code pc_Law_law (pc_Law_law 90) (i_Law_law_90) = true := by decide +kernel
theorem fitL_91 : sm_fit RL 7 (lt_fl kLaw_law).1 (lt_fl kLaw_law).2 (some .boolean) code pc_Law_law (pc_Law_law 91) (i_Law_law_91) = true := by decide +kernel
theorem fitL_92 : sm_fit RL 7 (lt_fl kLaw_law).1 (lt_fl kLaw_law).2 (some .boolean) code pc_Law_law (pc_Law_law 92) (i_Law_law_92) = true := by decide +kernel
theorem fitL_93 : sm_fit RL 7 (lt_fl kLaw_law).1 (lt_fl kLaw_law).2 (some .boolean) code pc_Law_law (pc_Law_law 93) (i_Law_law_93) = true := by decide +kernel
theorem fitL_94 : sm_fit RL 7 (lt_fl kLaw_law).1 (lt_fl kLaw_law).2 (some .boolean) code pc_Law_law (pc_Law_law 94) (i_Law_law_94) = true := by decide +kernel
theorem fitL_95 : sm_fit RL 7 (lt_fl kLaw_law).1 (lt_fl kLaw_law).2 (some .boolean) code pc_Law_law (pc_Law_law 95) (i_Law_law_95) = true := by decide +kernel
theorem fitL_96 : sm_fit RL 7 (lt_fl kLaw_law).1 (lt_fl kLaw_law).2 (some .boolean) code pc_Law_law (pc_Law_law 96) (i_Law_law_96) = true := by decide +kernel
theorem fitL_97 : sm_fit RL 7 (lt_fl kLaw_law).1 (lt_fl kLaw_law).2 (some .boolean) code pc_Law_law (pc_Law_law 97) (i_Law_law_97) = true := by decide +kernel
theorem fitT_98 : sm_fit RL 7 (lt_fl kLaw_law).1 (lt_fl kLaw_law).2 (some .boolean) code pc_Law_law (pc_Law_law 98 + 3) ((cd_Law_law 98).tail) = true := by decide +kernel
theorem fitL_99 : sm_fit RL 7 (lt_fl kLaw_law).1 (lt_fl kLaw_law).2 (some .boolean) code pc_Law_law (pc_Law_law 99) (i_Law_law_99) = true := by decide +kernel
theorem fitL_100 : sm_fit RL 7 (lt_fl kLaw_law).1 (lt_fl kLaw_law).2 (some .boolean) code pc_Law_law (pc_Law_law 100) (i_Law_law_100) = true := by decide +kernel
theorem fitL_101 : sm_fit RL 7 (lt_fl kLaw_law).1 (lt_fl kLaw_law).2 (some .boolean) code pc_Law_law (pc_Law_law 101) (i_Law_law_101) = true := by decide +kernel
theorem fitL_102 : sm_fit RL 7 (lt_fl kLaw_law).1 (lt_fl kLaw_law).2 (some .boolean) code pc_Law_law (pc_Law_law 102) (i_Law_law_102) = true := by decide +kernel
theorem fitL_103 : sm_fit RL 7 (lt_fl kLaw_law).1 (lt_fl kLaw_law).2 (some .boolean) code pc_Law_law (pc_Law_law 103) (i_Law_law_103) = true := by decide +kernel
theorem fitL_104 : sm_fit RL 7 (lt_fl kLaw_law).1 (lt_fl kLaw_law).2 (some .boolean) code pc_Law_law (pc_Law_law 104) (i_Law_law_104) = true := by decide +kernel
theorem fitT_105 : sm_fit RL 7 (lt_fl kLaw_law).1 (lt_fl kLaw_law).2 (some .boolean) code pc_Law_law (pc_Law_law 105 + 3) ((cd_Law_law 105).tail) = true := by decide +kernel
theorem fitL_106 : sm_fit RL 7 (lt_fl kLaw_law).1 (lt_fl kLaw_law).2 (some .boolean) code pc_Law_law (pc_Law_law 106) (i_Law_law_106) = true := by decide +kernel
theorem fitL_107 : sm_fit RL 7 (lt_fl kLaw_law).1 (lt_fl kLaw_law).2 (some .boolean) code pc_Law_law (pc_Law_law 107) (i_Law_law_107) = true := by decide +kernel
theorem fitL_108 : sm_fit RL 7 (lt_fl kLaw_law).1 (lt_fl kLaw_law).2 (some .boolean) code pc_Law_law (pc_Law_law 108) (i_Law_law_108) = true := by decide +kernel
theorem fitL_109 : sm_fit RL 7 (lt_fl kLaw_law).1 (lt_fl kLaw_law).2 (some .boolean) code pc_Law_law (pc_Law_law 109) (i_Law_law_109) = true := by decide +kernel
theorem fitL_110 : sm_fit RL 7 (lt_fl kLaw_law).1 (lt_fl kLaw_law).2 (some .boolean) code pc_Law_law (pc_Law_law 110) (i_Law_law_110) = true := by decide +kernel
theorem fitL_111 : sm_fit RL 7 (lt_fl kLaw_law).1 (lt_fl kLaw_law).2 (some .boolean) code pc_Law_law (pc_Law_law 111) (i_Law_law_111) = true := by decide +kernel
theorem fitT_112 : sm_fit RL 7 (lt_fl kLaw_law).1 (lt_fl kLaw_law).2 (some .boolean) code pc_Law_law (pc_Law_law 112 + 3) ((cd_Law_law 112).tail) = true := by decide +kernel
theorem fitL_113 : sm_fit RL 7 (lt_fl kLaw_law).1 (lt_fl kLaw_law).2 (some .boolean) code pc_Law_law (pc_Law_law 113) (i_Law_law_113) = true := by decide +kernel
theorem fitL_114 : sm_fit RL 7 (lt_fl kLaw_law).1 (lt_fl kLaw_law).2 (some .boolean) code pc_Law_law (pc_Law_law 114) (i_Law_law_114) = true := by decide +kernel
theorem fitL_115 : sm_fit RL 7 (lt_fl kLaw_law).1 (lt_fl kLaw_law).2 (some .boolean) code pc_Law_law (pc_Law_law 115) (i_Law_law_115) = true := by decide +kernel
theorem fitL_116 : sm_fit RL 7 (lt_fl kLaw_law).1 (lt_fl kLaw_law).2 (some .boolean) code pc_Law_law (pc_Law_law 116) (i_Law_law_116) = true := by decide +kernel
theorem fitL_117 : sm_fit RL 7 (lt_fl kLaw_law).1 (lt_fl kLaw_law).2 (some .boolean) code pc_Law_law (pc_Law_law 117) (i_Law_law_117) = true := by decide +kernel
theorem fitL_118 : sm_fit RL 7 (lt_fl kLaw_law).1 (lt_fl kLaw_law).2 (some .boolean) code pc_Law_law (pc_Law_law 118) (i_Law_law_118) = true := by decide +kernel
theorem fitT_119 : sm_fit RL 7 (lt_fl kLaw_law).1 (lt_fl kLaw_law).2 (some .boolean) code pc_Law_law (pc_Law_law 119 + 3) ((cd_Law_law 119).tail) = true := by decide +kernel
theorem fitL_120 : sm_fit RL 7 (lt_fl kLaw_law).1 (lt_fl kLaw_law).2 (some .boolean) code pc_Law_law (pc_Law_law 120) (i_Law_law_120) = true := by decide +kernel
theorem fitL_121 : sm_fit RL 7 (lt_fl kLaw_law).1 (lt_fl kLaw_law).2 (some .boolean) code pc_Law_law (pc_Law_law 121) (i_Law_law_121) = true := by decide +kernel
theorem fitL_122 : sm_fit RL 7 (lt_fl kLaw_law).1 (lt_fl kLaw_law).2 (some .boolean) code pc_Law_law (pc_Law_law 122) (i_Law_law_122) = true := by decide +kernel
theorem fitL_123 : sm_fit RL 7 (lt_fl kLaw_law).1 (lt_fl kLaw_law).2 (some .boolean) code pc_Law_law (pc_Law_law 123) (i_Law_law_123) = true := by decide +kernel
theorem fitL_124 : sm_fit RL 7 (lt_fl kLaw_law).1 (lt_fl kLaw_law).2 (some .boolean) code pc_Law_law (pc_Law_law 124) (i_Law_law_124) = true := by decide +kernel
theorem fitL_125 : sm_fit RL 7 (lt_fl kLaw_law).1 (lt_fl kLaw_law).2 (some .boolean) code pc_Law_law (pc_Law_law 125) (i_Law_law_125) = true := by decide +kernel
theorem fitT_126 : sm_fit RL 7 (lt_fl kLaw_law).1 (lt_fl kLaw_law).2 (some .boolean) code pc_Law_law (pc_Law_law 126 + 3) ((cd_Law_law 126).tail) = true := by decide +kernel
theorem fitL_127 : sm_fit RL 7 (lt_fl kLaw_law).1 (lt_fl kLaw_law).2 (some .boolean) code pc_Law_law (pc_Law_law 127) (i_Law_law_127) = true := by decide +kernel
theorem fitL_128 : sm_fit RL 7 (lt_fl kLaw_law).1 (lt_fl kLaw_law).2 (some .boolean) code pc_Law_law (pc_Law_law 128) (i_Law_law_128) = true := by decide +kernel
theorem fitL_129 : sm_fit RL 7 (lt_fl kLaw_law).1 (lt_fl kLaw_law).2 (some .boolean) code pc_Law_law (pc_Law_law 129) (i_Law_law_129) = true := by decide +kernel
theorem fitL_130 : sm_fit RL 7 (lt_fl kLaw_law).1 (lt_fl kLaw_law).2 (some .boolean) code pc_Law_law (pc_Law_law 130) (i_Law_law_130) = true := by decide +kernel
theorem fitL_131 : sm_fit RL 7 (lt_fl kLaw_law).1 (lt_fl kLaw_law).2 (some .boolean) code pc_Law_law (pc_Law_law 131) (i_Law_law_131) = true := by decide +kernel
theorem fitL_132 : sm_fit RL 7 (lt_fl kLaw_law).1 (lt_fl kLaw_law).2 (some .boolean) code pc_Law_law (pc_Law_law 132) (i_Law_law_132) = true := by decide +kernel
theorem fitT_133 : sm_fit RL 7 (lt_fl kLaw_law).1 (lt_fl kLaw_law).2 (some .boolean) code pc_Law_law (pc_Law_law 133 + 3) ((cd_Law_law 133).tail) = true := by decide +kernel
theorem fitL_134 : sm_fit RL 7 (lt_fl kLaw_law).1 (lt_fl kLaw_law).2 (some .boolean) code pc_Law_law (pc_Law_law 134) (i_Law_law_134) = true := by decide +kernel
theorem fitL_135 : sm_fit RL 7 (lt_fl kLaw_law).1 (lt_fl kLaw_law).2 (some .boolean) code pc_Law_law (pc_Law_law 135) (i_Law_law_135) = true := by decide +kernel
theorem fitL_136 : sm_fit RL 7 (lt_fl kLaw_law).1 (lt_fl kLaw_law).2 (some .boolean) code pc_Law_law (pc_Law_law 136) (i_Law_law_136) = true := by decide +kernel
theorem fitL_137 : sm_fit RL 7 (lt_fl kLaw_law).1 (lt_fl kLaw_law).2 (some .boolean) code pc_Law_law (pc_Law_law 137) (i_Law_law_137) = true := by decide +kernel
theorem fitL_138 : sm_fit RL 7 (lt_fl kLaw_law).1 (lt_fl kLaw_law).2 (some .boolean) code pc_Law_law (pc_Law_law 138) (i_Law_law_138) = true := by decide +kernel
theorem fitL_139 : sm_fit RL 7 (lt_fl kLaw_law).1 (lt_fl kLaw_law).2 (some .boolean) code pc_Law_law (pc_Law_law 139) (i_Law_law_139) = true := by decide +kernel
theorem fitL_140 : sm_fit RL 7 (lt_fl kLaw_law).1 (lt_fl kLaw_law).2 (some .boolean) code pc_Law_law (pc_Law_law 140) (i_Law_law_140) = true := by decide +kernel
theorem fitL_141 : sm_fit RL 7 (lt_fl kLaw_law).1 (lt_fl kLaw_law).2 (some .boolean) code pc_Law_law (pc_Law_law 141) (i_Law_law_141) = true := by decide +kernel
theorem fitL_142 : sm_fit RL 7 (lt_fl kLaw_law).1 (lt_fl kLaw_law).2 (some .boolean) code pc_Law_law (pc_Law_law 142) (i_Law_law_142) = true := by decide +kernel
theorem fitL_143 : sm_fit RL 7 (lt_fl kLaw_law).1 (lt_fl kLaw_law).2 (some .boolean) code pc_Law_law (pc_Law_law 143) (i_Law_law_143) = true := by decide +kernel
theorem fitT_144 : sm_fit RL 7 (lt_fl kLaw_law).1 (lt_fl kLaw_law).2 (some .boolean) code pc_Law_law (pc_Law_law 144 + 3) ((cd_Law_law 144).tail) = true := by decide +kernel
theorem fitL_145 : sm_fit RL 7 (lt_fl kLaw_law).1 (lt_fl kLaw_law).2 (some .boolean) code pc_Law_law (pc_Law_law 145) (i_Law_law_145) = true := by decide +kernel
theorem fitL_146 : sm_fit RL 7 (lt_fl kLaw_law).1 (lt_fl kLaw_law).2 (some .boolean) code pc_Law_law (pc_Law_law 146) (i_Law_law_146) = true := by decide +kernel
theorem fitL_147 : sm_fit RL 7 (lt_fl kLaw_law).1 (lt_fl kLaw_law).2 (some .boolean) code pc_Law_law (pc_Law_law 147) (i_Law_law_147) = true := by decide +kernel
theorem fitL_148 : sm_fit RL 7 (lt_fl kLaw_law).1 (lt_fl kLaw_law).2 (some .boolean) code pc_Law_law (pc_Law_law 148) (i_Law_law_148) = true := by decide +kernel
theorem fitL_149 : sm_fit RL 7 (lt_fl kLaw_law).1 (lt_fl kLaw_law).2 (some .boolean) code pc_Law_law (pc_Law_law 149) (i_Law_law_149) = true := by decide +kernel
theorem fitL_150 : sm_fit RL 7 (lt_fl kLaw_law).1 (lt_fl kLaw_law).2 (some .boolean) code pc_Law_law (pc_Law_law 150) (i_Law_law_150) = true := by decide +kernel
theorem fitL_151 : sm_fit RL 7 (lt_fl kLaw_law).1 (lt_fl kLaw_law).2 (some .boolean) code pc_Law_law (pc_Law_law 151) (i_Law_law_151) = true := by decide +kernel
theorem fitU : ∀ b, sm_fit RL 7 (lt_fl kLaw_law).1 (lt_fl kLaw_law).2 (some .boolean) code pc_Law_law (pc_Law_law b) (cdU b) = true := by
  intro b
  match b with
  | 0 => exact rfl
  | 1 => exact rfl
  | 2 => exact fitL_2
  | 3 => exact fitL_3
  | 4 => exact rfl
  | 5 => exact fitL_5
  | 6 => exact fitL_6
  | 7 => exact fitL_7
  | 8 => exact fitL_8
  | 9 => exact fitL_9
  | 10 => exact fitL_10
  | 11 => exact rfl
  | 12 => exact fitL_12
  | 13 => exact fitL_13
  | 14 => exact fitL_14
  | 15 => exact fitL_15
  | 16 => exact fitL_16
  | 17 => exact fitL_17
  | 18 => exact rfl
  | 19 => exact fitL_19
  | 20 => exact fitL_20
  | 21 => exact fitL_21
  | 22 => exact fitL_22
  | 23 => exact fitL_23
  | 24 => exact fitL_24
  | 25 => exact rfl
  | 26 => exact fitL_26
  | 27 => exact fitL_27
  | 28 => exact fitL_28
  | 29 => exact fitL_29
  | 30 => exact fitL_30
  | 31 => exact fitL_31
  | 32 => exact rfl
  | 33 => exact fitL_33
  | 34 => exact fitL_34
  | 35 => exact fitL_35
  | 36 => exact fitL_36
  | 37 => exact fitL_37
  | 38 => exact fitL_38
  | 39 => exact rfl
  | 40 => exact fitL_40
  | 41 => exact fitL_41
  | 42 => exact fitL_42
  | 43 => exact fitL_43
  | 44 => exact fitL_44
  | 45 => exact fitL_45
  | 46 => exact rfl
  | 47 => exact fitL_47
  | 48 => exact fitL_48
  | 49 => exact fitL_49
  | 50 => exact fitL_50
  | 51 => exact fitL_51
  | 52 => exact fitL_52
  | 53 => exact rfl
  | 54 => exact fitL_54
  | 55 => exact fitL_55
  | 56 => exact fitL_56
  | 57 => exact fitL_57
  | 58 => exact fitL_58
  | 59 => exact fitL_59
  | 60 => exact rfl
  | 61 => exact fitL_61
  | 62 => exact fitL_62
  | 63 => exact fitL_63
  | 64 => exact fitL_64
  | 65 => exact fitL_65
  | 66 => exact fitL_66
  | 67 => exact rfl
  | 68 => exact fitL_68
  | 69 => exact fitL_69
  | 70 => exact fitL_70
  | 71 => exact fitL_71
  | 72 => exact fitL_72
  | 73 => exact fitL_73
  | 74 => exact rfl
  | 75 => exact fitL_75
  | 76 => exact fitL_76
  | 77 => exact fitL_77
  | 78 => exact fitL_78
  | 79 => exact fitL_79
  | 80 => exact fitL_80
  | 81 => exact fitL_81
  | 82 => exact fitL_82
  | 83 => exact fitL_83
  | 84 => exact fitL_84
  | 85 => exact rfl
  | 86 => exact fitL_86
  | 87 => exact fitL_87
  | 88 => exact rfl
  | 89 => exact fitL_89
  | 90 => exact fitL_90
  | 91 => exact fitL_91
  | 92 => exact fitL_92
  | 93 => exact fitL_93
  | 94 => exact rfl
  | 95 => exact fitL_95
  | 96 => exact fitL_96
  | 97 => exact fitL_97
  | 98 => exact rfl
  | 99 => exact fitL_99
  | 100 => exact fitL_100
  | 101 => exact fitL_101
  | 102 => exact fitL_102
  | 103 => exact fitL_103
  | 104 => exact fitL_104
  | 105 => exact rfl
  | 106 => exact fitL_106
  | 107 => exact fitL_107
  | 108 => exact fitL_108
  | 109 => exact fitL_109
  | 110 => exact fitL_110
  | 111 => exact fitL_111
  | 112 => exact rfl
  | 113 => exact fitL_113
  | 114 => exact fitL_114
  | 115 => exact fitL_115
  | 116 => exact fitL_116
  | 117 => exact fitL_117
  | 118 => exact fitL_118
  | 119 => exact rfl
  | 120 => exact fitL_120
  | 121 => exact fitL_121
  | 122 => exact fitL_122
  | 123 => exact fitL_123
  | 124 => exact fitL_124
  | 125 => exact fitL_125
  | 126 => exact rfl
  | 127 => exact fitL_127
  | 128 => exact fitL_128
  | 129 => exact fitL_129
  | 130 => exact fitL_130
  | 131 => exact fitL_131
  | 132 => exact fitL_132
  | 133 => exact rfl
  | 134 => exact fitL_134
  | 135 => exact fitL_135
  | 136 => exact fitL_136
  | 137 => exact fitL_137
  | 138 => exact fitL_138
  | 139 => exact fitL_139
  | 140 => exact fitL_140
  | 141 => exact fitL_141
  | 142 => exact fitL_142
  | 143 => exact fitL_143
  | 144 => exact rfl
  | 145 => exact fitL_145
  | 146 => exact fitL_146
  | 147 => exact fitL_147
  | 148 => exact fitL_148
  | 149 => exact fitL_149
  | 150 => exact fitL_150
  | 151 => exact fitL_151
  | n + 152 => exact rfl
