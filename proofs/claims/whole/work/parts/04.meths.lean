-- PART: every method is checked (chM), its code is what its bytes decode to; lengths of instructions; printed by gen/genlinks.py.
theorem chM_0 : (List.range' 0 24).all chM = true := by decide +kernel
theorem chM_1 : (List.range' 24 24).all chM = true := by decide +kernel
theorem chM_2 : (List.range' 48 24).all chM = true := by decide +kernel
theorem chM_3 : (List.range' 72 24).all chM = true := by decide +kernel
theorem chM_4 : (List.range' 96 24).all chM = true := by decide +kernel
theorem chM_5 : (List.range' 120 24).all chM = true := by decide +kernel
theorem chM_6 : (List.range' 144 24).all chM = true := by decide +kernel
theorem chM_7 : (List.range' 168 24).all chM = true := by decide +kernel
theorem chM_8 : (List.range' 192 24).all chM = true := by decide +kernel
theorem chM_9 : (List.range' 216 24).all chM = true := by decide +kernel
theorem chM_10 : (List.range' 240 18).all chM = true := by decide +kernel
def lenOf : Instr → Nat
  | .bipush _ | .ldc _ | .iload _ | .lload _ | .aload _ | .istore _ | .lstore _ | .astore _ | .newarray _ => 2
  | .sipush _ | .ldc_w _ | .ldc2_w _ | .iinc .. | .ifCond .. | .if_icmp .. | .goto _ | .getfield _ | .putfield _ | .invokevirtual _ | .invokespecial _ | .invokestatic _ | .new _ | .anewarray _ => 3
  | .multianewarray .. => 4
  | .tableswitch .. | .lookupswitch .. => 0
  | _ => 1
def lnOk (c : KC) : Bool := c.all (fun q => Nat.beq (lenOf q.2.1) 0 || Nat.beq (lenOf q.2.1) q.2.2)
theorem kn_0 : (kd_ok (kx_b 0) (kx_m 0).2.2.2.2 && lnOk (kx_m 0).2.2.2.2) = true := by decide +kernel
theorem kn_1 : (kd_ok (kx_b 1) (kx_m 1).2.2.2.2 && lnOk (kx_m 1).2.2.2.2) = true := by decide +kernel
theorem kn_2 : (kd_ok (kx_b 2) (kx_m 2).2.2.2.2 && lnOk (kx_m 2).2.2.2.2) = true := by decide +kernel
theorem kn_3 : (kd_ok (kx_b 3) (kx_m 3).2.2.2.2 && lnOk (kx_m 3).2.2.2.2) = true := by decide +kernel
theorem kn_4 : (kd_ok (kx_b 4) (kx_m 4).2.2.2.2 && lnOk (kx_m 4).2.2.2.2) = true := by decide +kernel
theorem kn_5 : (kd_ok (kx_b 5) (kx_m 5).2.2.2.2 && lnOk (kx_m 5).2.2.2.2) = true := by decide +kernel
theorem kn_6 : (kd_ok (kx_b 6) (kx_m 6).2.2.2.2 && lnOk (kx_m 6).2.2.2.2) = true := by decide +kernel
theorem kn_7 : (kd_ok (kx_b 7) (kx_m 7).2.2.2.2 && lnOk (kx_m 7).2.2.2.2) = true := by decide +kernel
theorem kn_8 : (kd_ok (kx_b 8) (kx_m 8).2.2.2.2 && lnOk (kx_m 8).2.2.2.2) = true := by decide +kernel
theorem kn_9 : (kd_ok (kx_b 9) (kx_m 9).2.2.2.2 && lnOk (kx_m 9).2.2.2.2) = true := by decide +kernel
theorem kn_10 : (kd_ok (kx_b 10) (kx_m 10).2.2.2.2 && lnOk (kx_m 10).2.2.2.2) = true := by decide +kernel
theorem kn_11 : (kd_ok (kx_b 11) (kx_m 11).2.2.2.2 && lnOk (kx_m 11).2.2.2.2) = true := by decide +kernel
theorem kn_12 : (kd_ok (kx_b 12) (kx_m 12).2.2.2.2 && lnOk (kx_m 12).2.2.2.2) = true := by decide +kernel
theorem kn_13 : (kd_ok (kx_b 13) (kx_m 13).2.2.2.2 && lnOk (kx_m 13).2.2.2.2) = true := by decide +kernel
theorem kn_14 : (kd_ok (kx_b 14) (kx_m 14).2.2.2.2 && lnOk (kx_m 14).2.2.2.2) = true := by decide +kernel
theorem kn_15 : (kd_ok (kx_b 15) (kx_m 15).2.2.2.2 && lnOk (kx_m 15).2.2.2.2) = true := by decide +kernel
theorem kn_16 : (kd_ok (kx_b 16) (kx_m 16).2.2.2.2 && lnOk (kx_m 16).2.2.2.2) = true := by decide +kernel
theorem kn_17 : (kd_ok (kx_b 17) (kx_m 17).2.2.2.2 && lnOk (kx_m 17).2.2.2.2) = true := by decide +kernel
theorem kn_18 : (kd_ok (kx_b 18) (kx_m 18).2.2.2.2 && lnOk (kx_m 18).2.2.2.2) = true := by decide +kernel
theorem kn_19 : (kd_ok (kx_b 19) (kx_m 19).2.2.2.2 && lnOk (kx_m 19).2.2.2.2) = true := by decide +kernel
theorem kn_20 : (kd_ok (kx_b 20) (kx_m 20).2.2.2.2 && lnOk (kx_m 20).2.2.2.2) = true := by decide +kernel
theorem kn_21 : (kd_ok (kx_b 21) (kx_m 21).2.2.2.2 && lnOk (kx_m 21).2.2.2.2) = true := by decide +kernel
theorem kn_22 : (kd_ok (kx_b 22) (kx_m 22).2.2.2.2 && lnOk (kx_m 22).2.2.2.2) = true := by decide +kernel
theorem kn_23 : (kd_ok (kx_b 23) (kx_m 23).2.2.2.2 && lnOk (kx_m 23).2.2.2.2) = true := by decide +kernel
theorem kn_24 : (kd_ok (kx_b 24) (kx_m 24).2.2.2.2 && lnOk (kx_m 24).2.2.2.2) = true := by decide +kernel
theorem kn_25 : (kd_ok (kx_b 25) (kx_m 25).2.2.2.2 && lnOk (kx_m 25).2.2.2.2) = true := by decide +kernel
theorem kn_26 : (kd_ok (kx_b 26) (kx_m 26).2.2.2.2 && lnOk (kx_m 26).2.2.2.2) = true := by decide +kernel
theorem kn_27 : (kd_ok (kx_b 27) (kx_m 27).2.2.2.2 && lnOk (kx_m 27).2.2.2.2) = true := by decide +kernel
theorem kn_28 : (kd_ok (kx_b 28) (kx_m 28).2.2.2.2 && lnOk (kx_m 28).2.2.2.2) = true := by decide +kernel
theorem kn_29 : (kd_ok (kx_b 29) (kx_m 29).2.2.2.2 && lnOk (kx_m 29).2.2.2.2) = true := by decide +kernel
theorem kn_30 : (kd_ok (kx_b 30) (kx_m 30).2.2.2.2 && lnOk (kx_m 30).2.2.2.2) = true := by decide +kernel
theorem kn_31 : (kd_ok (kx_b 31) (kx_m 31).2.2.2.2 && lnOk (kx_m 31).2.2.2.2) = true := by decide +kernel
theorem kn_32 : (kd_ok (kx_b 32) (kx_m 32).2.2.2.2 && lnOk (kx_m 32).2.2.2.2) = true := by decide +kernel
theorem kn_33 : (kd_ok (kx_b 33) (kx_m 33).2.2.2.2 && lnOk (kx_m 33).2.2.2.2) = true := by decide +kernel
theorem kn_34 : (kd_ok (kx_b 34) (kx_m 34).2.2.2.2 && lnOk (kx_m 34).2.2.2.2) = true := by decide +kernel
theorem kn_35 : (kd_ok (kx_b 35) (kx_m 35).2.2.2.2 && lnOk (kx_m 35).2.2.2.2) = true := by decide +kernel
theorem kn_36 : (kd_ok (kx_b 36) (kx_m 36).2.2.2.2 && lnOk (kx_m 36).2.2.2.2) = true := by decide +kernel
theorem kn_37 : (kd_ok (kx_b 37) (kx_m 37).2.2.2.2 && lnOk (kx_m 37).2.2.2.2) = true := by decide +kernel
theorem kn_38 : (kd_ok (kx_b 38) (kx_m 38).2.2.2.2 && lnOk (kx_m 38).2.2.2.2) = true := by decide +kernel
theorem kn_39 : (kd_ok (kx_b 39) (kx_m 39).2.2.2.2 && lnOk (kx_m 39).2.2.2.2) = true := by decide +kernel
theorem kn_40 : (kd_ok (kx_b 40) (kx_m 40).2.2.2.2 && lnOk (kx_m 40).2.2.2.2) = true := by decide +kernel
theorem kn_41 : (kd_ok (kx_b 41) (kx_m 41).2.2.2.2 && lnOk (kx_m 41).2.2.2.2) = true := by decide +kernel
theorem kn_42 : (kd_ok (kx_b 42) (kx_m 42).2.2.2.2 && lnOk (kx_m 42).2.2.2.2) = true := by decide +kernel
theorem kn_43 : (kd_ok (kx_b 43) (kx_m 43).2.2.2.2 && lnOk (kx_m 43).2.2.2.2) = true := by decide +kernel
theorem kn_44 : (kd_ok (kx_b 44) (kx_m 44).2.2.2.2 && lnOk (kx_m 44).2.2.2.2) = true := by decide +kernel
theorem kn_45 : (kd_ok (kx_b 45) (kx_m 45).2.2.2.2 && lnOk (kx_m 45).2.2.2.2) = true := by decide +kernel
theorem kn_46 : (kd_ok (kx_b 46) (kx_m 46).2.2.2.2 && lnOk (kx_m 46).2.2.2.2) = true := by decide +kernel
theorem kn_47 : (kd_ok (kx_b 47) (kx_m 47).2.2.2.2 && lnOk (kx_m 47).2.2.2.2) = true := by decide +kernel
theorem kn_48 : (kd_ok (kx_b 48) (kx_m 48).2.2.2.2 && lnOk (kx_m 48).2.2.2.2) = true := by decide +kernel
theorem kn_49 : (kd_ok (kx_b 49) (kx_m 49).2.2.2.2 && lnOk (kx_m 49).2.2.2.2) = true := by decide +kernel
theorem kn_50 : (kd_ok (kx_b 50) (kx_m 50).2.2.2.2 && lnOk (kx_m 50).2.2.2.2) = true := by decide +kernel
theorem kn_51 : (kd_ok (kx_b 51) (kx_m 51).2.2.2.2 && lnOk (kx_m 51).2.2.2.2) = true := by decide +kernel
theorem kn_52 : (kd_ok (kx_b 52) (kx_m 52).2.2.2.2 && lnOk (kx_m 52).2.2.2.2) = true := by decide +kernel
theorem kn_53 : (kd_ok (kx_b 53) (kx_m 53).2.2.2.2 && lnOk (kx_m 53).2.2.2.2) = true := by decide +kernel
theorem kn_54 : (kd_ok (kx_b 54) (kx_m 54).2.2.2.2 && lnOk (kx_m 54).2.2.2.2) = true := by decide +kernel
theorem kn_55 : (kd_ok (kx_b 55) (kx_m 55).2.2.2.2 && lnOk (kx_m 55).2.2.2.2) = true := by decide +kernel
theorem kn_56 : (kd_ok (kx_b 56) (kx_m 56).2.2.2.2 && lnOk (kx_m 56).2.2.2.2) = true := by decide +kernel
theorem kn_57 : (kd_ok (kx_b 57) (kx_m 57).2.2.2.2 && lnOk (kx_m 57).2.2.2.2) = true := by decide +kernel
theorem kn_58 : (kd_ok (kx_b 58) (kx_m 58).2.2.2.2 && lnOk (kx_m 58).2.2.2.2) = true := by decide +kernel
theorem kn_59 : (kd_ok (kx_b 59) (kx_m 59).2.2.2.2 && lnOk (kx_m 59).2.2.2.2) = true := by decide +kernel
theorem kn_60 : (kd_ok (kx_b 60) (kx_m 60).2.2.2.2 && lnOk (kx_m 60).2.2.2.2) = true := by decide +kernel
theorem kn_61 : (kd_ok (kx_b 61) (kx_m 61).2.2.2.2 && lnOk (kx_m 61).2.2.2.2) = true := by decide +kernel
theorem kn_62 : (kd_ok (kx_b 62) (kx_m 62).2.2.2.2 && lnOk (kx_m 62).2.2.2.2) = true := by decide +kernel
theorem kn_63 : (kd_ok (kx_b 63) (kx_m 63).2.2.2.2 && lnOk (kx_m 63).2.2.2.2) = true := by decide +kernel
theorem kn_64 : (kd_ok (kx_b 64) (kx_m 64).2.2.2.2 && lnOk (kx_m 64).2.2.2.2) = true := by decide +kernel
theorem kn_65 : (kd_ok (kx_b 65) (kx_m 65).2.2.2.2 && lnOk (kx_m 65).2.2.2.2) = true := by decide +kernel
theorem kn_66 : (kd_ok (kx_b 66) (kx_m 66).2.2.2.2 && lnOk (kx_m 66).2.2.2.2) = true := by decide +kernel
theorem kn_67 : (kd_ok (kx_b 67) (kx_m 67).2.2.2.2 && lnOk (kx_m 67).2.2.2.2) = true := by decide +kernel
theorem kn_68 : (kd_ok (kx_b 68) (kx_m 68).2.2.2.2 && lnOk (kx_m 68).2.2.2.2) = true := by decide +kernel
theorem kn_69 : (kd_ok (kx_b 69) (kx_m 69).2.2.2.2 && lnOk (kx_m 69).2.2.2.2) = true := by decide +kernel
theorem kn_70 : (kd_ok (kx_b 70) (kx_m 70).2.2.2.2 && lnOk (kx_m 70).2.2.2.2) = true := by decide +kernel
theorem kn_71 : (kd_ok (kx_b 71) (kx_m 71).2.2.2.2 && lnOk (kx_m 71).2.2.2.2) = true := by decide +kernel
theorem kn_72 : (kd_ok (kx_b 72) (kx_m 72).2.2.2.2 && lnOk (kx_m 72).2.2.2.2) = true := by decide +kernel
theorem kn_73 : (kd_ok (kx_b 73) (kx_m 73).2.2.2.2 && lnOk (kx_m 73).2.2.2.2) = true := by decide +kernel
theorem kn_74 : (kd_ok (kx_b 74) (kx_m 74).2.2.2.2 && lnOk (kx_m 74).2.2.2.2) = true := by decide +kernel
theorem kn_75 : (kd_ok (kx_b 75) (kx_m 75).2.2.2.2 && lnOk (kx_m 75).2.2.2.2) = true := by decide +kernel
theorem kn_76 : (kd_ok (kx_b 76) (kx_m 76).2.2.2.2 && lnOk (kx_m 76).2.2.2.2) = true := by decide +kernel
theorem kn_77 : (kd_ok (kx_b 77) (kx_m 77).2.2.2.2 && lnOk (kx_m 77).2.2.2.2) = true := by decide +kernel
theorem kn_78 : (kd_ok (kx_b 78) (kx_m 78).2.2.2.2 && lnOk (kx_m 78).2.2.2.2) = true := by decide +kernel
theorem kn_79 : (kd_ok (kx_b 79) (kx_m 79).2.2.2.2 && lnOk (kx_m 79).2.2.2.2) = true := by decide +kernel
theorem kn_80 : (kd_ok (kx_b 80) (kx_m 80).2.2.2.2 && lnOk (kx_m 80).2.2.2.2) = true := by decide +kernel
theorem kn_81 : (kd_ok (kx_b 81) (kx_m 81).2.2.2.2 && lnOk (kx_m 81).2.2.2.2) = true := by decide +kernel
theorem kn_82 : (kd_ok (kx_b 82) (kx_m 82).2.2.2.2 && lnOk (kx_m 82).2.2.2.2) = true := by decide +kernel
theorem kn_83 : (kd_ok (kx_b 83) (kx_m 83).2.2.2.2 && lnOk (kx_m 83).2.2.2.2) = true := by decide +kernel
theorem kn_84 : (kd_ok (kx_b 84) (kx_m 84).2.2.2.2 && lnOk (kx_m 84).2.2.2.2) = true := by decide +kernel
theorem kn_85 : (kd_ok (kx_b 85) (kx_m 85).2.2.2.2 && lnOk (kx_m 85).2.2.2.2) = true := by decide +kernel
theorem kn_86 : (kd_ok (kx_b 86) (kx_m 86).2.2.2.2 && lnOk (kx_m 86).2.2.2.2) = true := by decide +kernel
theorem kn_87 : (kd_ok (kx_b 87) (kx_m 87).2.2.2.2 && lnOk (kx_m 87).2.2.2.2) = true := by decide +kernel
theorem kn_88 : (kd_ok (kx_b 88) (kx_m 88).2.2.2.2 && lnOk (kx_m 88).2.2.2.2) = true := by decide +kernel
theorem kn_89 : (kd_ok (kx_b 89) (kx_m 89).2.2.2.2 && lnOk (kx_m 89).2.2.2.2) = true := by decide +kernel
theorem kn_90 : (kd_ok (kx_b 90) (kx_m 90).2.2.2.2 && lnOk (kx_m 90).2.2.2.2) = true := by decide +kernel
theorem kn_91 : (kd_ok (kx_b 91) (kx_m 91).2.2.2.2 && lnOk (kx_m 91).2.2.2.2) = true := by decide +kernel
theorem kn_92 : (kd_ok (kx_b 92) (kx_m 92).2.2.2.2 && lnOk (kx_m 92).2.2.2.2) = true := by decide +kernel
theorem kn_93 : (kd_ok (kx_b 93) (kx_m 93).2.2.2.2 && lnOk (kx_m 93).2.2.2.2) = true := by decide +kernel
theorem kn_94 : (kd_ok (kx_b 94) (kx_m 94).2.2.2.2 && lnOk (kx_m 94).2.2.2.2) = true := by decide +kernel
theorem kn_95 : (kd_ok (kx_b 95) (kx_m 95).2.2.2.2 && lnOk (kx_m 95).2.2.2.2) = true := by decide +kernel
theorem kn_96 : (kd_ok (kx_b 96) (kx_m 96).2.2.2.2 && lnOk (kx_m 96).2.2.2.2) = true := by decide +kernel
theorem kn_97 : (kd_ok (kx_b 97) (kx_m 97).2.2.2.2 && lnOk (kx_m 97).2.2.2.2) = true := by decide +kernel
theorem kn_98 : (kd_ok (kx_b 98) (kx_m 98).2.2.2.2 && lnOk (kx_m 98).2.2.2.2) = true := by decide +kernel
theorem kn_99 : (kd_ok (kx_b 99) (kx_m 99).2.2.2.2 && lnOk (kx_m 99).2.2.2.2) = true := by decide +kernel
theorem kn_100 : (kd_ok (kx_b 100) (kx_m 100).2.2.2.2 && lnOk (kx_m 100).2.2.2.2) = true := by decide +kernel
theorem kn_101 : (kd_ok (kx_b 101) (kx_m 101).2.2.2.2 && lnOk (kx_m 101).2.2.2.2) = true := by decide +kernel
theorem kn_102 : (kd_ok (kx_b 102) (kx_m 102).2.2.2.2 && lnOk (kx_m 102).2.2.2.2) = true := by decide +kernel
theorem kn_103 : (kd_ok (kx_b 103) (kx_m 103).2.2.2.2 && lnOk (kx_m 103).2.2.2.2) = true := by decide +kernel
theorem kn_104 : (kd_ok (kx_b 104) (kx_m 104).2.2.2.2 && lnOk (kx_m 104).2.2.2.2) = true := by decide +kernel
theorem kn_105 : (kd_ok (kx_b 105) (kx_m 105).2.2.2.2 && lnOk (kx_m 105).2.2.2.2) = true := by decide +kernel
theorem kn_106 : (kd_ok (kx_b 106) (kx_m 106).2.2.2.2 && lnOk (kx_m 106).2.2.2.2) = true := by decide +kernel
theorem kn_107 : (kd_ok (kx_b 107) (kx_m 107).2.2.2.2 && lnOk (kx_m 107).2.2.2.2) = true := by decide +kernel
theorem kn_108 : (kd_ok (kx_b 108) (kx_m 108).2.2.2.2 && lnOk (kx_m 108).2.2.2.2) = true := by decide +kernel
theorem kn_109 : (kd_ok (kx_b 109) (kx_m 109).2.2.2.2 && lnOk (kx_m 109).2.2.2.2) = true := by decide +kernel
theorem kn_110 : (kd_ok (kx_b 110) (kx_m 110).2.2.2.2 && lnOk (kx_m 110).2.2.2.2) = true := by decide +kernel
theorem kn_111 : (kd_ok (kx_b 111) (kx_m 111).2.2.2.2 && lnOk (kx_m 111).2.2.2.2) = true := by decide +kernel
theorem kn_112 : (kd_ok (kx_b 112) (kx_m 112).2.2.2.2 && lnOk (kx_m 112).2.2.2.2) = true := by decide +kernel
theorem kn_113 : (kd_ok (kx_b 113) (kx_m 113).2.2.2.2 && lnOk (kx_m 113).2.2.2.2) = true := by decide +kernel
theorem kn_114 : (kd_ok (kx_b 114) (kx_m 114).2.2.2.2 && lnOk (kx_m 114).2.2.2.2) = true := by decide +kernel
theorem kn_115 : (kd_ok (kx_b 115) (kx_m 115).2.2.2.2 && lnOk (kx_m 115).2.2.2.2) = true := by decide +kernel
theorem kn_116 : (kd_ok (kx_b 116) (kx_m 116).2.2.2.2 && lnOk (kx_m 116).2.2.2.2) = true := by decide +kernel
theorem kn_117 : (kd_ok (kx_b 117) (kx_m 117).2.2.2.2 && lnOk (kx_m 117).2.2.2.2) = true := by decide +kernel
theorem kn_118 : (kd_ok (kx_b 118) (kx_m 118).2.2.2.2 && lnOk (kx_m 118).2.2.2.2) = true := by decide +kernel
theorem kn_119 : (kd_ok (kx_b 119) (kx_m 119).2.2.2.2 && lnOk (kx_m 119).2.2.2.2) = true := by decide +kernel
theorem kn_120 : (kd_ok (kx_b 120) (kx_m 120).2.2.2.2 && lnOk (kx_m 120).2.2.2.2) = true := by decide +kernel
theorem kn_121 : (kd_ok (kx_b 121) (kx_m 121).2.2.2.2 && lnOk (kx_m 121).2.2.2.2) = true := by decide +kernel
theorem kn_122 : (kd_ok (kx_b 122) (kx_m 122).2.2.2.2 && lnOk (kx_m 122).2.2.2.2) = true := by decide +kernel
theorem kn_123 : (kd_ok (kx_b 123) (kx_m 123).2.2.2.2 && lnOk (kx_m 123).2.2.2.2) = true := by decide +kernel
theorem kn_124 : (kd_ok (kx_b 124) (kx_m 124).2.2.2.2 && lnOk (kx_m 124).2.2.2.2) = true := by decide +kernel
theorem kn_125 : (kd_ok (kx_b 125) (kx_m 125).2.2.2.2 && lnOk (kx_m 125).2.2.2.2) = true := by decide +kernel
theorem kn_126 : (kd_ok (kx_b 126) (kx_m 126).2.2.2.2 && lnOk (kx_m 126).2.2.2.2) = true := by decide +kernel
theorem kn_127 : (kd_ok (kx_b 127) (kx_m 127).2.2.2.2 && lnOk (kx_m 127).2.2.2.2) = true := by decide +kernel
theorem kn_128 : (kd_ok (kx_b 128) (kx_m 128).2.2.2.2 && lnOk (kx_m 128).2.2.2.2) = true := by decide +kernel
theorem kn_129 : (kd_ok (kx_b 129) (kx_m 129).2.2.2.2 && lnOk (kx_m 129).2.2.2.2) = true := by decide +kernel
theorem kn_130 : (kd_ok (kx_b 130) (kx_m 130).2.2.2.2 && lnOk (kx_m 130).2.2.2.2) = true := by decide +kernel
theorem kn_131 : (kd_ok (kx_b 131) (kx_m 131).2.2.2.2 && lnOk (kx_m 131).2.2.2.2) = true := by decide +kernel
theorem kn_132 : (kd_ok (kx_b 132) (kx_m 132).2.2.2.2 && lnOk (kx_m 132).2.2.2.2) = true := by decide +kernel
theorem kn_133 : (kd_ok (kx_b 133) (kx_m 133).2.2.2.2 && lnOk (kx_m 133).2.2.2.2) = true := by decide +kernel
theorem kn_134 : (kd_ok (kx_b 134) (kx_m 134).2.2.2.2 && lnOk (kx_m 134).2.2.2.2) = true := by decide +kernel
theorem kn_135 : (kd_ok (kx_b 135) (kx_m 135).2.2.2.2 && lnOk (kx_m 135).2.2.2.2) = true := by decide +kernel
theorem kn_136 : (kd_ok (kx_b 136) (kx_m 136).2.2.2.2 && lnOk (kx_m 136).2.2.2.2) = true := by decide +kernel
theorem kn_137 : (kd_ok (kx_b 137) (kx_m 137).2.2.2.2 && lnOk (kx_m 137).2.2.2.2) = true := by decide +kernel
theorem kn_138 : (kd_ok (kx_b 138) (kx_m 138).2.2.2.2 && lnOk (kx_m 138).2.2.2.2) = true := by decide +kernel
theorem kn_139 : (kd_ok (kx_b 139) (kx_m 139).2.2.2.2 && lnOk (kx_m 139).2.2.2.2) = true := by decide +kernel
theorem kn_140 : (kd_ok (kx_b 140) (kx_m 140).2.2.2.2 && lnOk (kx_m 140).2.2.2.2) = true := by decide +kernel
theorem kn_141 : (kd_ok (kx_b 141) (kx_m 141).2.2.2.2 && lnOk (kx_m 141).2.2.2.2) = true := by decide +kernel
theorem kn_142 : (kd_ok (kx_b 142) (kx_m 142).2.2.2.2 && lnOk (kx_m 142).2.2.2.2) = true := by decide +kernel
theorem kn_143 : (kd_ok (kx_b 143) (kx_m 143).2.2.2.2 && lnOk (kx_m 143).2.2.2.2) = true := by decide +kernel
theorem kn_144 : (kd_ok (kx_b 144) (kx_m 144).2.2.2.2 && lnOk (kx_m 144).2.2.2.2) = true := by decide +kernel
theorem kn_145 : (kd_ok (kx_b 145) (kx_m 145).2.2.2.2 && lnOk (kx_m 145).2.2.2.2) = true := by decide +kernel
theorem kn_146 : (kd_ok (kx_b 146) (kx_m 146).2.2.2.2 && lnOk (kx_m 146).2.2.2.2) = true := by decide +kernel
theorem kn_147 : (kd_ok (kx_b 147) (kx_m 147).2.2.2.2 && lnOk (kx_m 147).2.2.2.2) = true := by decide +kernel
theorem kn_148 : (kd_ok (kx_b 148) (kx_m 148).2.2.2.2 && lnOk (kx_m 148).2.2.2.2) = true := by decide +kernel
theorem kn_149 : (kd_ok (kx_b 149) (kx_m 149).2.2.2.2 && lnOk (kx_m 149).2.2.2.2) = true := by decide +kernel
theorem kn_150 : (kd_ok (kx_b 150) (kx_m 150).2.2.2.2 && lnOk (kx_m 150).2.2.2.2) = true := by decide +kernel
theorem kn_151 : (kd_ok (kx_b 151) (kx_m 151).2.2.2.2 && lnOk (kx_m 151).2.2.2.2) = true := by decide +kernel
theorem kn_152 : (kd_ok (kx_b 152) (kx_m 152).2.2.2.2 && lnOk (kx_m 152).2.2.2.2) = true := by decide +kernel
theorem kn_153 : (kd_ok (kx_b 153) (kx_m 153).2.2.2.2 && lnOk (kx_m 153).2.2.2.2) = true := by decide +kernel
theorem kn_154 : (kd_ok (kx_b 154) (kx_m 154).2.2.2.2 && lnOk (kx_m 154).2.2.2.2) = true := by decide +kernel
theorem kn_155 : (kd_ok (kx_b 155) (kx_m 155).2.2.2.2 && lnOk (kx_m 155).2.2.2.2) = true := by decide +kernel
theorem kn_156 : (kd_ok (kx_b 156) (kx_m 156).2.2.2.2 && lnOk (kx_m 156).2.2.2.2) = true := by decide +kernel
theorem kn_157 : (kd_ok (kx_b 157) (kx_m 157).2.2.2.2 && lnOk (kx_m 157).2.2.2.2) = true := by decide +kernel
theorem kn_158 : (kd_ok (kx_b 158) (kx_m 158).2.2.2.2 && lnOk (kx_m 158).2.2.2.2) = true := by decide +kernel
theorem kn_159 : (kd_ok (kx_b 159) (kx_m 159).2.2.2.2 && lnOk (kx_m 159).2.2.2.2) = true := by decide +kernel
theorem kn_160 : (kd_ok (kx_b 160) (kx_m 160).2.2.2.2 && lnOk (kx_m 160).2.2.2.2) = true := by decide +kernel
theorem kn_161 : (kd_ok (kx_b 161) (kx_m 161).2.2.2.2 && lnOk (kx_m 161).2.2.2.2) = true := by decide +kernel
theorem kn_162 : (kd_ok (kx_b 162) (kx_m 162).2.2.2.2 && lnOk (kx_m 162).2.2.2.2) = true := by decide +kernel
theorem kn_163 : (kd_ok (kx_b 163) (kx_m 163).2.2.2.2 && lnOk (kx_m 163).2.2.2.2) = true := by decide +kernel
theorem kn_164 : (kd_ok (kx_b 164) (kx_m 164).2.2.2.2 && lnOk (kx_m 164).2.2.2.2) = true := by decide +kernel
theorem kn_165 : (kd_ok (kx_b 165) (kx_m 165).2.2.2.2 && lnOk (kx_m 165).2.2.2.2) = true := by decide +kernel
theorem kn_166 : (kd_ok (kx_b 166) (kx_m 166).2.2.2.2 && lnOk (kx_m 166).2.2.2.2) = true := by decide +kernel
theorem kn_167 : (kd_ok (kx_b 167) (kx_m 167).2.2.2.2 && lnOk (kx_m 167).2.2.2.2) = true := by decide +kernel
theorem kn_168 : (kd_ok (kx_b 168) (kx_m 168).2.2.2.2 && lnOk (kx_m 168).2.2.2.2) = true := by decide +kernel
theorem kn_169 : (kd_ok (kx_b 169) (kx_m 169).2.2.2.2 && lnOk (kx_m 169).2.2.2.2) = true := by decide +kernel
theorem kn_170 : (kd_ok (kx_b 170) (kx_m 170).2.2.2.2 && lnOk (kx_m 170).2.2.2.2) = true := by decide +kernel
theorem kn_171 : (kd_ok (kx_b 171) (kx_m 171).2.2.2.2 && lnOk (kx_m 171).2.2.2.2) = true := by decide +kernel
theorem kn_172 : (kd_ok (kx_b 172) (kx_m 172).2.2.2.2 && lnOk (kx_m 172).2.2.2.2) = true := by decide +kernel
theorem kn_173 : (kd_ok (kx_b 173) (kx_m 173).2.2.2.2 && lnOk (kx_m 173).2.2.2.2) = true := by decide +kernel
theorem kn_174 : (kd_ok (kx_b 174) (kx_m 174).2.2.2.2 && lnOk (kx_m 174).2.2.2.2) = true := by decide +kernel
theorem kn_175 : (kd_ok (kx_b 175) (kx_m 175).2.2.2.2 && lnOk (kx_m 175).2.2.2.2) = true := by decide +kernel
theorem kn_176 : (kd_ok (kx_b 176) (kx_m 176).2.2.2.2 && lnOk (kx_m 176).2.2.2.2) = true := by decide +kernel
theorem kn_177 : (kd_ok (kx_b 177) (kx_m 177).2.2.2.2 && lnOk (kx_m 177).2.2.2.2) = true := by decide +kernel
theorem kn_178 : (kd_ok (kx_b 178) (kx_m 178).2.2.2.2 && lnOk (kx_m 178).2.2.2.2) = true := by decide +kernel
theorem kn_179 : (kd_ok (kx_b 179) (kx_m 179).2.2.2.2 && lnOk (kx_m 179).2.2.2.2) = true := by decide +kernel
theorem kn_180 : (kd_ok (kx_b 180) (kx_m 180).2.2.2.2 && lnOk (kx_m 180).2.2.2.2) = true := by decide +kernel
theorem kn_181 : (kd_ok (kx_b 181) (kx_m 181).2.2.2.2 && lnOk (kx_m 181).2.2.2.2) = true := by decide +kernel
theorem kn_182 : (kd_ok (kx_b 182) (kx_m 182).2.2.2.2 && lnOk (kx_m 182).2.2.2.2) = true := by decide +kernel
theorem kn_183 : (kd_ok (kx_b 183) (kx_m 183).2.2.2.2 && lnOk (kx_m 183).2.2.2.2) = true := by decide +kernel
theorem kn_184 : (kd_ok (kx_b 184) (kx_m 184).2.2.2.2 && lnOk (kx_m 184).2.2.2.2) = true := by decide +kernel
theorem kn_185 : (kd_ok (kx_b 185) (kx_m 185).2.2.2.2 && lnOk (kx_m 185).2.2.2.2) = true := by decide +kernel
theorem kn_186 : (kd_ok (kx_b 186) (kx_m 186).2.2.2.2 && lnOk (kx_m 186).2.2.2.2) = true := by decide +kernel
theorem kn_187 : (kd_ok (kx_b 187) (kx_m 187).2.2.2.2 && lnOk (kx_m 187).2.2.2.2) = true := by decide +kernel
theorem kn_188 : (kd_ok (kx_b 188) (kx_m 188).2.2.2.2 && lnOk (kx_m 188).2.2.2.2) = true := by decide +kernel
theorem kn_189 : (kd_ok (kx_b 189) (kx_m 189).2.2.2.2 && lnOk (kx_m 189).2.2.2.2) = true := by decide +kernel
theorem kn_190 : (kd_ok (kx_b 190) (kx_m 190).2.2.2.2 && lnOk (kx_m 190).2.2.2.2) = true := by decide +kernel
theorem kn_191 : (kd_ok (kx_b 191) (kx_m 191).2.2.2.2 && lnOk (kx_m 191).2.2.2.2) = true := by decide +kernel
theorem kn_192 : (kd_ok (kx_b 192) (kx_m 192).2.2.2.2 && lnOk (kx_m 192).2.2.2.2) = true := by decide +kernel
theorem kn_193 : (kd_ok (kx_b 193) (kx_m 193).2.2.2.2 && lnOk (kx_m 193).2.2.2.2) = true := by decide +kernel
theorem kn_194 : (kd_ok (kx_b 194) (kx_m 194).2.2.2.2 && lnOk (kx_m 194).2.2.2.2) = true := by decide +kernel
theorem kn_195 : (kd_ok (kx_b 195) (kx_m 195).2.2.2.2 && lnOk (kx_m 195).2.2.2.2) = true := by decide +kernel
theorem kn_196 : (kd_ok (kx_b 196) (kx_m 196).2.2.2.2 && lnOk (kx_m 196).2.2.2.2) = true := by decide +kernel
theorem kn_197 : (kd_ok (kx_b 197) (kx_m 197).2.2.2.2 && lnOk (kx_m 197).2.2.2.2) = true := by decide +kernel
theorem kn_198 : (kd_ok (kx_b 198) (kx_m 198).2.2.2.2 && lnOk (kx_m 198).2.2.2.2) = true := by decide +kernel
theorem kn_199 : (kd_ok (kx_b 199) (kx_m 199).2.2.2.2 && lnOk (kx_m 199).2.2.2.2) = true := by decide +kernel
theorem kn_200 : (kd_ok (kx_b 200) (kx_m 200).2.2.2.2 && lnOk (kx_m 200).2.2.2.2) = true := by decide +kernel
theorem kn_201 : (kd_ok (kx_b 201) (kx_m 201).2.2.2.2 && lnOk (kx_m 201).2.2.2.2) = true := by decide +kernel
theorem kn_202 : (kd_ok (kx_b 202) (kx_m 202).2.2.2.2 && lnOk (kx_m 202).2.2.2.2) = true := by decide +kernel
theorem kn_203 : (kd_ok (kx_b 203) (kx_m 203).2.2.2.2 && lnOk (kx_m 203).2.2.2.2) = true := by decide +kernel
theorem kn_204 : (kd_ok (kx_b 204) (kx_m 204).2.2.2.2 && lnOk (kx_m 204).2.2.2.2) = true := by decide +kernel
theorem kn_205 : (kd_ok (kx_b 205) (kx_m 205).2.2.2.2 && lnOk (kx_m 205).2.2.2.2) = true := by decide +kernel
theorem kn_206 : (kd_ok (kx_b 206) (kx_m 206).2.2.2.2 && lnOk (kx_m 206).2.2.2.2) = true := by decide +kernel
theorem kn_207 : (kd_ok (kx_b 207) (kx_m 207).2.2.2.2 && lnOk (kx_m 207).2.2.2.2) = true := by decide +kernel
theorem kn_208 : (kd_ok (kx_b 208) (kx_m 208).2.2.2.2 && lnOk (kx_m 208).2.2.2.2) = true := by decide +kernel
theorem kn_209 : (kd_ok (kx_b 209) (kx_m 209).2.2.2.2 && lnOk (kx_m 209).2.2.2.2) = true := by decide +kernel
theorem kn_210 : (kd_ok (kx_b 210) (kx_m 210).2.2.2.2 && lnOk (kx_m 210).2.2.2.2) = true := by decide +kernel
theorem kn_211 : (kd_ok (kx_b 211) (kx_m 211).2.2.2.2 && lnOk (kx_m 211).2.2.2.2) = true := by decide +kernel
theorem kn_212 : (kd_ok (kx_b 212) (kx_m 212).2.2.2.2 && lnOk (kx_m 212).2.2.2.2) = true := by decide +kernel
theorem kn_213 : (kd_ok (kx_b 213) (kx_m 213).2.2.2.2 && lnOk (kx_m 213).2.2.2.2) = true := by decide +kernel
theorem kn_214 : (kd_ok (kx_b 214) (kx_m 214).2.2.2.2 && lnOk (kx_m 214).2.2.2.2) = true := by decide +kernel
theorem kn_215 : (kd_ok (kx_b 215) (kx_m 215).2.2.2.2 && lnOk (kx_m 215).2.2.2.2) = true := by decide +kernel
theorem kn_216 : (kd_ok (kx_b 216) (kx_m 216).2.2.2.2 && lnOk (kx_m 216).2.2.2.2) = true := by decide +kernel
theorem kn_217 : (kd_ok (kx_b 217) (kx_m 217).2.2.2.2 && lnOk (kx_m 217).2.2.2.2) = true := by decide +kernel
theorem kn_218 : (kd_ok (kx_b 218) (kx_m 218).2.2.2.2 && lnOk (kx_m 218).2.2.2.2) = true := by decide +kernel
theorem kn_219 : (kd_ok (kx_b 219) (kx_m 219).2.2.2.2 && lnOk (kx_m 219).2.2.2.2) = true := by decide +kernel
theorem kn_220 : (kd_ok (kx_b 220) (kx_m 220).2.2.2.2 && lnOk (kx_m 220).2.2.2.2) = true := by decide +kernel
theorem kn_221 : (kd_ok (kx_b 221) (kx_m 221).2.2.2.2 && lnOk (kx_m 221).2.2.2.2) = true := by decide +kernel
theorem kn_222 : (kd_ok (kx_b 222) (kx_m 222).2.2.2.2 && lnOk (kx_m 222).2.2.2.2) = true := by decide +kernel
theorem kn_223 : (kd_ok (kx_b 223) (kx_m 223).2.2.2.2 && lnOk (kx_m 223).2.2.2.2) = true := by decide +kernel
theorem kn_224 : (kd_ok (kx_b 224) (kx_m 224).2.2.2.2 && lnOk (kx_m 224).2.2.2.2) = true := by decide +kernel
theorem kn_225 : (kd_ok (kx_b 225) (kx_m 225).2.2.2.2 && lnOk (kx_m 225).2.2.2.2) = true := by decide +kernel
theorem kn_226 : (kd_ok (kx_b 226) (kx_m 226).2.2.2.2 && lnOk (kx_m 226).2.2.2.2) = true := by decide +kernel
theorem kn_227 : (kd_ok (kx_b 227) (kx_m 227).2.2.2.2 && lnOk (kx_m 227).2.2.2.2) = true := by decide +kernel
theorem kn_228 : (kd_ok (kx_b 228) (kx_m 228).2.2.2.2 && lnOk (kx_m 228).2.2.2.2) = true := by decide +kernel
theorem kn_229 : (kd_ok (kx_b 229) (kx_m 229).2.2.2.2 && lnOk (kx_m 229).2.2.2.2) = true := by decide +kernel
theorem kn_230 : (kd_ok (kx_b 230) (kx_m 230).2.2.2.2 && lnOk (kx_m 230).2.2.2.2) = true := by decide +kernel
theorem kn_231 : (kd_ok (kx_b 231) (kx_m 231).2.2.2.2 && lnOk (kx_m 231).2.2.2.2) = true := by decide +kernel
theorem kn_232 : (kd_ok (kx_b 232) (kx_m 232).2.2.2.2 && lnOk (kx_m 232).2.2.2.2) = true := by decide +kernel
theorem kn_233 : (kd_ok (kx_b 233) (kx_m 233).2.2.2.2 && lnOk (kx_m 233).2.2.2.2) = true := by decide +kernel
theorem kn_234 : (kd_ok (kx_b 234) (kx_m 234).2.2.2.2 && lnOk (kx_m 234).2.2.2.2) = true := by decide +kernel
theorem kn_235 : (kd_ok (kx_b 235) (kx_m 235).2.2.2.2 && lnOk (kx_m 235).2.2.2.2) = true := by decide +kernel
theorem kn_236 : (kd_ok (kx_b 236) (kx_m 236).2.2.2.2 && lnOk (kx_m 236).2.2.2.2) = true := by decide +kernel
theorem kn_237 : (kd_ok (kx_b 237) (kx_m 237).2.2.2.2 && lnOk (kx_m 237).2.2.2.2) = true := by decide +kernel
theorem kn_238 : (kd_ok (kx_b 238) (kx_m 238).2.2.2.2 && lnOk (kx_m 238).2.2.2.2) = true := by decide +kernel
theorem kn_239 : (kd_ok (kx_b 239) (kx_m 239).2.2.2.2 && lnOk (kx_m 239).2.2.2.2) = true := by decide +kernel
theorem kn_240 : (kd_ok (kx_b 240) (kx_m 240).2.2.2.2 && lnOk (kx_m 240).2.2.2.2) = true := by decide +kernel
theorem kn_241 : (kd_ok (kx_b 241) (kx_m 241).2.2.2.2 && lnOk (kx_m 241).2.2.2.2) = true := by decide +kernel
theorem kn_242 : (kd_ok (kx_b 242) (kx_m 242).2.2.2.2 && lnOk (kx_m 242).2.2.2.2) = true := by decide +kernel
theorem kn_243 : (kd_ok (kx_b 243) (kx_m 243).2.2.2.2 && lnOk (kx_m 243).2.2.2.2) = true := by decide +kernel
theorem kn_244 : (kd_ok (kx_b 244) (kx_m 244).2.2.2.2 && lnOk (kx_m 244).2.2.2.2) = true := by decide +kernel
theorem kn_245 : (kd_ok (kx_b 245) (kx_m 245).2.2.2.2 && lnOk (kx_m 245).2.2.2.2) = true := by decide +kernel
theorem kn_246 : (kd_ok (kx_b 246) (kx_m 246).2.2.2.2 && lnOk (kx_m 246).2.2.2.2) = true := by decide +kernel
theorem kn_247 : (kd_ok (kx_b 247) (kx_m 247).2.2.2.2 && lnOk (kx_m 247).2.2.2.2) = true := by decide +kernel
theorem kn_248 : (kd_ok (kx_b 248) (kx_m 248).2.2.2.2 && lnOk (kx_m 248).2.2.2.2) = true := by decide +kernel
theorem kn_249 : (kd_ok (kx_b 249) (kx_m 249).2.2.2.2 && lnOk (kx_m 249).2.2.2.2) = true := by decide +kernel
theorem kn_250 : (kd_ok (kx_b 250) (kx_m 250).2.2.2.2 && lnOk (kx_m 250).2.2.2.2) = true := by decide +kernel
theorem kn_251 : (kd_ok (kx_b 251) (kx_m 251).2.2.2.2 && lnOk (kx_m 251).2.2.2.2) = true := by decide +kernel
theorem kn_252 : (kd_ok (kx_b 252) (kx_m 252).2.2.2.2 && lnOk (kx_m 252).2.2.2.2) = true := by decide +kernel
theorem kn_253 : (kd_ok (kx_b 253) (kx_m 253).2.2.2.2 && lnOk (kx_m 253).2.2.2.2) = true := by decide +kernel
theorem kn_254 : (kd_ok (kx_b 254) (kx_m 254).2.2.2.2 && lnOk (kx_m 254).2.2.2.2) = true := by decide +kernel
theorem kn_255 : (kd_ok (kx_b 255) (kx_m 255).2.2.2.2 && lnOk (kx_m 255).2.2.2.2) = true := by decide +kernel
theorem kn_256 : (kd_ok (kx_b 256) (kx_m 256).2.2.2.2 && lnOk (kx_m 256).2.2.2.2) = true := by decide +kernel
theorem kn_257 : (kd_ok (kx_b 257) (kx_m 257).2.2.2.2 && lnOk (kx_m 257).2.2.2.2) = true := by decide +kernel
theorem kna_0 : ∀ m, m < 0 → (kd_ok (kx_b m) (kx_m m).2.2.2.2 && lnOk (kx_m m).2.2.2.2) = true := lt_0
theorem kna_1 : ∀ m, m < 1 → (kd_ok (kx_b m) (kx_m m).2.2.2.2 && lnOk (kx_m m).2.2.2.2) = true := lt_s kna_0 kn_0
theorem kna_2 : ∀ m, m < 2 → (kd_ok (kx_b m) (kx_m m).2.2.2.2 && lnOk (kx_m m).2.2.2.2) = true := lt_s kna_1 kn_1
theorem kna_3 : ∀ m, m < 3 → (kd_ok (kx_b m) (kx_m m).2.2.2.2 && lnOk (kx_m m).2.2.2.2) = true := lt_s kna_2 kn_2
theorem kna_4 : ∀ m, m < 4 → (kd_ok (kx_b m) (kx_m m).2.2.2.2 && lnOk (kx_m m).2.2.2.2) = true := lt_s kna_3 kn_3
theorem kna_5 : ∀ m, m < 5 → (kd_ok (kx_b m) (kx_m m).2.2.2.2 && lnOk (kx_m m).2.2.2.2) = true := lt_s kna_4 kn_4
theorem kna_6 : ∀ m, m < 6 → (kd_ok (kx_b m) (kx_m m).2.2.2.2 && lnOk (kx_m m).2.2.2.2) = true := lt_s kna_5 kn_5
theorem kna_7 : ∀ m, m < 7 → (kd_ok (kx_b m) (kx_m m).2.2.2.2 && lnOk (kx_m m).2.2.2.2) = true := lt_s kna_6 kn_6
theorem kna_8 : ∀ m, m < 8 → (kd_ok (kx_b m) (kx_m m).2.2.2.2 && lnOk (kx_m m).2.2.2.2) = true := lt_s kna_7 kn_7
theorem kna_9 : ∀ m, m < 9 → (kd_ok (kx_b m) (kx_m m).2.2.2.2 && lnOk (kx_m m).2.2.2.2) = true := lt_s kna_8 kn_8
theorem kna_10 : ∀ m, m < 10 → (kd_ok (kx_b m) (kx_m m).2.2.2.2 && lnOk (kx_m m).2.2.2.2) = true := lt_s kna_9 kn_9
theorem kna_11 : ∀ m, m < 11 → (kd_ok (kx_b m) (kx_m m).2.2.2.2 && lnOk (kx_m m).2.2.2.2) = true := lt_s kna_10 kn_10
theorem kna_12 : ∀ m, m < 12 → (kd_ok (kx_b m) (kx_m m).2.2.2.2 && lnOk (kx_m m).2.2.2.2) = true := lt_s kna_11 kn_11
theorem kna_13 : ∀ m, m < 13 → (kd_ok (kx_b m) (kx_m m).2.2.2.2 && lnOk (kx_m m).2.2.2.2) = true := lt_s kna_12 kn_12
theorem kna_14 : ∀ m, m < 14 → (kd_ok (kx_b m) (kx_m m).2.2.2.2 && lnOk (kx_m m).2.2.2.2) = true := lt_s kna_13 kn_13
theorem kna_15 : ∀ m, m < 15 → (kd_ok (kx_b m) (kx_m m).2.2.2.2 && lnOk (kx_m m).2.2.2.2) = true := lt_s kna_14 kn_14
theorem kna_16 : ∀ m, m < 16 → (kd_ok (kx_b m) (kx_m m).2.2.2.2 && lnOk (kx_m m).2.2.2.2) = true := lt_s kna_15 kn_15
theorem kna_17 : ∀ m, m < 17 → (kd_ok (kx_b m) (kx_m m).2.2.2.2 && lnOk (kx_m m).2.2.2.2) = true := lt_s kna_16 kn_16
theorem kna_18 : ∀ m, m < 18 → (kd_ok (kx_b m) (kx_m m).2.2.2.2 && lnOk (kx_m m).2.2.2.2) = true := lt_s kna_17 kn_17
theorem kna_19 : ∀ m, m < 19 → (kd_ok (kx_b m) (kx_m m).2.2.2.2 && lnOk (kx_m m).2.2.2.2) = true := lt_s kna_18 kn_18
theorem kna_20 : ∀ m, m < 20 → (kd_ok (kx_b m) (kx_m m).2.2.2.2 && lnOk (kx_m m).2.2.2.2) = true := lt_s kna_19 kn_19
theorem kna_21 : ∀ m, m < 21 → (kd_ok (kx_b m) (kx_m m).2.2.2.2 && lnOk (kx_m m).2.2.2.2) = true := lt_s kna_20 kn_20
theorem kna_22 : ∀ m, m < 22 → (kd_ok (kx_b m) (kx_m m).2.2.2.2 && lnOk (kx_m m).2.2.2.2) = true := lt_s kna_21 kn_21
theorem kna_23 : ∀ m, m < 23 → (kd_ok (kx_b m) (kx_m m).2.2.2.2 && lnOk (kx_m m).2.2.2.2) = true := lt_s kna_22 kn_22
theorem kna_24 : ∀ m, m < 24 → (kd_ok (kx_b m) (kx_m m).2.2.2.2 && lnOk (kx_m m).2.2.2.2) = true := lt_s kna_23 kn_23
theorem kna_25 : ∀ m, m < 25 → (kd_ok (kx_b m) (kx_m m).2.2.2.2 && lnOk (kx_m m).2.2.2.2) = true := lt_s kna_24 kn_24
theorem kna_26 : ∀ m, m < 26 → (kd_ok (kx_b m) (kx_m m).2.2.2.2 && lnOk (kx_m m).2.2.2.2) = true := lt_s kna_25 kn_25
theorem kna_27 : ∀ m, m < 27 → (kd_ok (kx_b m) (kx_m m).2.2.2.2 && lnOk (kx_m m).2.2.2.2) = true := lt_s kna_26 kn_26
theorem kna_28 : ∀ m, m < 28 → (kd_ok (kx_b m) (kx_m m).2.2.2.2 && lnOk (kx_m m).2.2.2.2) = true := lt_s kna_27 kn_27
theorem kna_29 : ∀ m, m < 29 → (kd_ok (kx_b m) (kx_m m).2.2.2.2 && lnOk (kx_m m).2.2.2.2) = true := lt_s kna_28 kn_28
theorem kna_30 : ∀ m, m < 30 → (kd_ok (kx_b m) (kx_m m).2.2.2.2 && lnOk (kx_m m).2.2.2.2) = true := lt_s kna_29 kn_29
theorem kna_31 : ∀ m, m < 31 → (kd_ok (kx_b m) (kx_m m).2.2.2.2 && lnOk (kx_m m).2.2.2.2) = true := lt_s kna_30 kn_30
theorem kna_32 : ∀ m, m < 32 → (kd_ok (kx_b m) (kx_m m).2.2.2.2 && lnOk (kx_m m).2.2.2.2) = true := lt_s kna_31 kn_31
theorem kna_33 : ∀ m, m < 33 → (kd_ok (kx_b m) (kx_m m).2.2.2.2 && lnOk (kx_m m).2.2.2.2) = true := lt_s kna_32 kn_32
theorem kna_34 : ∀ m, m < 34 → (kd_ok (kx_b m) (kx_m m).2.2.2.2 && lnOk (kx_m m).2.2.2.2) = true := lt_s kna_33 kn_33
theorem kna_35 : ∀ m, m < 35 → (kd_ok (kx_b m) (kx_m m).2.2.2.2 && lnOk (kx_m m).2.2.2.2) = true := lt_s kna_34 kn_34
theorem kna_36 : ∀ m, m < 36 → (kd_ok (kx_b m) (kx_m m).2.2.2.2 && lnOk (kx_m m).2.2.2.2) = true := lt_s kna_35 kn_35
theorem kna_37 : ∀ m, m < 37 → (kd_ok (kx_b m) (kx_m m).2.2.2.2 && lnOk (kx_m m).2.2.2.2) = true := lt_s kna_36 kn_36
theorem kna_38 : ∀ m, m < 38 → (kd_ok (kx_b m) (kx_m m).2.2.2.2 && lnOk (kx_m m).2.2.2.2) = true := lt_s kna_37 kn_37
theorem kna_39 : ∀ m, m < 39 → (kd_ok (kx_b m) (kx_m m).2.2.2.2 && lnOk (kx_m m).2.2.2.2) = true := lt_s kna_38 kn_38
theorem kna_40 : ∀ m, m < 40 → (kd_ok (kx_b m) (kx_m m).2.2.2.2 && lnOk (kx_m m).2.2.2.2) = true := lt_s kna_39 kn_39
theorem kna_41 : ∀ m, m < 41 → (kd_ok (kx_b m) (kx_m m).2.2.2.2 && lnOk (kx_m m).2.2.2.2) = true := lt_s kna_40 kn_40
theorem kna_42 : ∀ m, m < 42 → (kd_ok (kx_b m) (kx_m m).2.2.2.2 && lnOk (kx_m m).2.2.2.2) = true := lt_s kna_41 kn_41
theorem kna_43 : ∀ m, m < 43 → (kd_ok (kx_b m) (kx_m m).2.2.2.2 && lnOk (kx_m m).2.2.2.2) = true := lt_s kna_42 kn_42
theorem kna_44 : ∀ m, m < 44 → (kd_ok (kx_b m) (kx_m m).2.2.2.2 && lnOk (kx_m m).2.2.2.2) = true := lt_s kna_43 kn_43
theorem kna_45 : ∀ m, m < 45 → (kd_ok (kx_b m) (kx_m m).2.2.2.2 && lnOk (kx_m m).2.2.2.2) = true := lt_s kna_44 kn_44
theorem kna_46 : ∀ m, m < 46 → (kd_ok (kx_b m) (kx_m m).2.2.2.2 && lnOk (kx_m m).2.2.2.2) = true := lt_s kna_45 kn_45
theorem kna_47 : ∀ m, m < 47 → (kd_ok (kx_b m) (kx_m m).2.2.2.2 && lnOk (kx_m m).2.2.2.2) = true := lt_s kna_46 kn_46
theorem kna_48 : ∀ m, m < 48 → (kd_ok (kx_b m) (kx_m m).2.2.2.2 && lnOk (kx_m m).2.2.2.2) = true := lt_s kna_47 kn_47
theorem kna_49 : ∀ m, m < 49 → (kd_ok (kx_b m) (kx_m m).2.2.2.2 && lnOk (kx_m m).2.2.2.2) = true := lt_s kna_48 kn_48
theorem kna_50 : ∀ m, m < 50 → (kd_ok (kx_b m) (kx_m m).2.2.2.2 && lnOk (kx_m m).2.2.2.2) = true := lt_s kna_49 kn_49
theorem kna_51 : ∀ m, m < 51 → (kd_ok (kx_b m) (kx_m m).2.2.2.2 && lnOk (kx_m m).2.2.2.2) = true := lt_s kna_50 kn_50
theorem kna_52 : ∀ m, m < 52 → (kd_ok (kx_b m) (kx_m m).2.2.2.2 && lnOk (kx_m m).2.2.2.2) = true := lt_s kna_51 kn_51
theorem kna_53 : ∀ m, m < 53 → (kd_ok (kx_b m) (kx_m m).2.2.2.2 && lnOk (kx_m m).2.2.2.2) = true := lt_s kna_52 kn_52
theorem kna_54 : ∀ m, m < 54 → (kd_ok (kx_b m) (kx_m m).2.2.2.2 && lnOk (kx_m m).2.2.2.2) = true := lt_s kna_53 kn_53
theorem kna_55 : ∀ m, m < 55 → (kd_ok (kx_b m) (kx_m m).2.2.2.2 && lnOk (kx_m m).2.2.2.2) = true := lt_s kna_54 kn_54
theorem kna_56 : ∀ m, m < 56 → (kd_ok (kx_b m) (kx_m m).2.2.2.2 && lnOk (kx_m m).2.2.2.2) = true := lt_s kna_55 kn_55
theorem kna_57 : ∀ m, m < 57 → (kd_ok (kx_b m) (kx_m m).2.2.2.2 && lnOk (kx_m m).2.2.2.2) = true := lt_s kna_56 kn_56
theorem kna_58 : ∀ m, m < 58 → (kd_ok (kx_b m) (kx_m m).2.2.2.2 && lnOk (kx_m m).2.2.2.2) = true := lt_s kna_57 kn_57
theorem kna_59 : ∀ m, m < 59 → (kd_ok (kx_b m) (kx_m m).2.2.2.2 && lnOk (kx_m m).2.2.2.2) = true := lt_s kna_58 kn_58
theorem kna_60 : ∀ m, m < 60 → (kd_ok (kx_b m) (kx_m m).2.2.2.2 && lnOk (kx_m m).2.2.2.2) = true := lt_s kna_59 kn_59
theorem kna_61 : ∀ m, m < 61 → (kd_ok (kx_b m) (kx_m m).2.2.2.2 && lnOk (kx_m m).2.2.2.2) = true := lt_s kna_60 kn_60
theorem kna_62 : ∀ m, m < 62 → (kd_ok (kx_b m) (kx_m m).2.2.2.2 && lnOk (kx_m m).2.2.2.2) = true := lt_s kna_61 kn_61
theorem kna_63 : ∀ m, m < 63 → (kd_ok (kx_b m) (kx_m m).2.2.2.2 && lnOk (kx_m m).2.2.2.2) = true := lt_s kna_62 kn_62
theorem kna_64 : ∀ m, m < 64 → (kd_ok (kx_b m) (kx_m m).2.2.2.2 && lnOk (kx_m m).2.2.2.2) = true := lt_s kna_63 kn_63
theorem kna_65 : ∀ m, m < 65 → (kd_ok (kx_b m) (kx_m m).2.2.2.2 && lnOk (kx_m m).2.2.2.2) = true := lt_s kna_64 kn_64
theorem kna_66 : ∀ m, m < 66 → (kd_ok (kx_b m) (kx_m m).2.2.2.2 && lnOk (kx_m m).2.2.2.2) = true := lt_s kna_65 kn_65
theorem kna_67 : ∀ m, m < 67 → (kd_ok (kx_b m) (kx_m m).2.2.2.2 && lnOk (kx_m m).2.2.2.2) = true := lt_s kna_66 kn_66
theorem kna_68 : ∀ m, m < 68 → (kd_ok (kx_b m) (kx_m m).2.2.2.2 && lnOk (kx_m m).2.2.2.2) = true := lt_s kna_67 kn_67
theorem kna_69 : ∀ m, m < 69 → (kd_ok (kx_b m) (kx_m m).2.2.2.2 && lnOk (kx_m m).2.2.2.2) = true := lt_s kna_68 kn_68
theorem kna_70 : ∀ m, m < 70 → (kd_ok (kx_b m) (kx_m m).2.2.2.2 && lnOk (kx_m m).2.2.2.2) = true := lt_s kna_69 kn_69
theorem kna_71 : ∀ m, m < 71 → (kd_ok (kx_b m) (kx_m m).2.2.2.2 && lnOk (kx_m m).2.2.2.2) = true := lt_s kna_70 kn_70
theorem kna_72 : ∀ m, m < 72 → (kd_ok (kx_b m) (kx_m m).2.2.2.2 && lnOk (kx_m m).2.2.2.2) = true := lt_s kna_71 kn_71
theorem kna_73 : ∀ m, m < 73 → (kd_ok (kx_b m) (kx_m m).2.2.2.2 && lnOk (kx_m m).2.2.2.2) = true := lt_s kna_72 kn_72
theorem kna_74 : ∀ m, m < 74 → (kd_ok (kx_b m) (kx_m m).2.2.2.2 && lnOk (kx_m m).2.2.2.2) = true := lt_s kna_73 kn_73
theorem kna_75 : ∀ m, m < 75 → (kd_ok (kx_b m) (kx_m m).2.2.2.2 && lnOk (kx_m m).2.2.2.2) = true := lt_s kna_74 kn_74
theorem kna_76 : ∀ m, m < 76 → (kd_ok (kx_b m) (kx_m m).2.2.2.2 && lnOk (kx_m m).2.2.2.2) = true := lt_s kna_75 kn_75
theorem kna_77 : ∀ m, m < 77 → (kd_ok (kx_b m) (kx_m m).2.2.2.2 && lnOk (kx_m m).2.2.2.2) = true := lt_s kna_76 kn_76
theorem kna_78 : ∀ m, m < 78 → (kd_ok (kx_b m) (kx_m m).2.2.2.2 && lnOk (kx_m m).2.2.2.2) = true := lt_s kna_77 kn_77
theorem kna_79 : ∀ m, m < 79 → (kd_ok (kx_b m) (kx_m m).2.2.2.2 && lnOk (kx_m m).2.2.2.2) = true := lt_s kna_78 kn_78
theorem kna_80 : ∀ m, m < 80 → (kd_ok (kx_b m) (kx_m m).2.2.2.2 && lnOk (kx_m m).2.2.2.2) = true := lt_s kna_79 kn_79
theorem kna_81 : ∀ m, m < 81 → (kd_ok (kx_b m) (kx_m m).2.2.2.2 && lnOk (kx_m m).2.2.2.2) = true := lt_s kna_80 kn_80
theorem kna_82 : ∀ m, m < 82 → (kd_ok (kx_b m) (kx_m m).2.2.2.2 && lnOk (kx_m m).2.2.2.2) = true := lt_s kna_81 kn_81
theorem kna_83 : ∀ m, m < 83 → (kd_ok (kx_b m) (kx_m m).2.2.2.2 && lnOk (kx_m m).2.2.2.2) = true := lt_s kna_82 kn_82
theorem kna_84 : ∀ m, m < 84 → (kd_ok (kx_b m) (kx_m m).2.2.2.2 && lnOk (kx_m m).2.2.2.2) = true := lt_s kna_83 kn_83
theorem kna_85 : ∀ m, m < 85 → (kd_ok (kx_b m) (kx_m m).2.2.2.2 && lnOk (kx_m m).2.2.2.2) = true := lt_s kna_84 kn_84
theorem kna_86 : ∀ m, m < 86 → (kd_ok (kx_b m) (kx_m m).2.2.2.2 && lnOk (kx_m m).2.2.2.2) = true := lt_s kna_85 kn_85
theorem kna_87 : ∀ m, m < 87 → (kd_ok (kx_b m) (kx_m m).2.2.2.2 && lnOk (kx_m m).2.2.2.2) = true := lt_s kna_86 kn_86
theorem kna_88 : ∀ m, m < 88 → (kd_ok (kx_b m) (kx_m m).2.2.2.2 && lnOk (kx_m m).2.2.2.2) = true := lt_s kna_87 kn_87
theorem kna_89 : ∀ m, m < 89 → (kd_ok (kx_b m) (kx_m m).2.2.2.2 && lnOk (kx_m m).2.2.2.2) = true := lt_s kna_88 kn_88
theorem kna_90 : ∀ m, m < 90 → (kd_ok (kx_b m) (kx_m m).2.2.2.2 && lnOk (kx_m m).2.2.2.2) = true := lt_s kna_89 kn_89
theorem kna_91 : ∀ m, m < 91 → (kd_ok (kx_b m) (kx_m m).2.2.2.2 && lnOk (kx_m m).2.2.2.2) = true := lt_s kna_90 kn_90
theorem kna_92 : ∀ m, m < 92 → (kd_ok (kx_b m) (kx_m m).2.2.2.2 && lnOk (kx_m m).2.2.2.2) = true := lt_s kna_91 kn_91
theorem kna_93 : ∀ m, m < 93 → (kd_ok (kx_b m) (kx_m m).2.2.2.2 && lnOk (kx_m m).2.2.2.2) = true := lt_s kna_92 kn_92
theorem kna_94 : ∀ m, m < 94 → (kd_ok (kx_b m) (kx_m m).2.2.2.2 && lnOk (kx_m m).2.2.2.2) = true := lt_s kna_93 kn_93
theorem kna_95 : ∀ m, m < 95 → (kd_ok (kx_b m) (kx_m m).2.2.2.2 && lnOk (kx_m m).2.2.2.2) = true := lt_s kna_94 kn_94
theorem kna_96 : ∀ m, m < 96 → (kd_ok (kx_b m) (kx_m m).2.2.2.2 && lnOk (kx_m m).2.2.2.2) = true := lt_s kna_95 kn_95
theorem kna_97 : ∀ m, m < 97 → (kd_ok (kx_b m) (kx_m m).2.2.2.2 && lnOk (kx_m m).2.2.2.2) = true := lt_s kna_96 kn_96
theorem kna_98 : ∀ m, m < 98 → (kd_ok (kx_b m) (kx_m m).2.2.2.2 && lnOk (kx_m m).2.2.2.2) = true := lt_s kna_97 kn_97
theorem kna_99 : ∀ m, m < 99 → (kd_ok (kx_b m) (kx_m m).2.2.2.2 && lnOk (kx_m m).2.2.2.2) = true := lt_s kna_98 kn_98
theorem kna_100 : ∀ m, m < 100 → (kd_ok (kx_b m) (kx_m m).2.2.2.2 && lnOk (kx_m m).2.2.2.2) = true := lt_s kna_99 kn_99
theorem kna_101 : ∀ m, m < 101 → (kd_ok (kx_b m) (kx_m m).2.2.2.2 && lnOk (kx_m m).2.2.2.2) = true := lt_s kna_100 kn_100
theorem kna_102 : ∀ m, m < 102 → (kd_ok (kx_b m) (kx_m m).2.2.2.2 && lnOk (kx_m m).2.2.2.2) = true := lt_s kna_101 kn_101
theorem kna_103 : ∀ m, m < 103 → (kd_ok (kx_b m) (kx_m m).2.2.2.2 && lnOk (kx_m m).2.2.2.2) = true := lt_s kna_102 kn_102
theorem kna_104 : ∀ m, m < 104 → (kd_ok (kx_b m) (kx_m m).2.2.2.2 && lnOk (kx_m m).2.2.2.2) = true := lt_s kna_103 kn_103
theorem kna_105 : ∀ m, m < 105 → (kd_ok (kx_b m) (kx_m m).2.2.2.2 && lnOk (kx_m m).2.2.2.2) = true := lt_s kna_104 kn_104
theorem kna_106 : ∀ m, m < 106 → (kd_ok (kx_b m) (kx_m m).2.2.2.2 && lnOk (kx_m m).2.2.2.2) = true := lt_s kna_105 kn_105
theorem kna_107 : ∀ m, m < 107 → (kd_ok (kx_b m) (kx_m m).2.2.2.2 && lnOk (kx_m m).2.2.2.2) = true := lt_s kna_106 kn_106
theorem kna_108 : ∀ m, m < 108 → (kd_ok (kx_b m) (kx_m m).2.2.2.2 && lnOk (kx_m m).2.2.2.2) = true := lt_s kna_107 kn_107
theorem kna_109 : ∀ m, m < 109 → (kd_ok (kx_b m) (kx_m m).2.2.2.2 && lnOk (kx_m m).2.2.2.2) = true := lt_s kna_108 kn_108
theorem kna_110 : ∀ m, m < 110 → (kd_ok (kx_b m) (kx_m m).2.2.2.2 && lnOk (kx_m m).2.2.2.2) = true := lt_s kna_109 kn_109
theorem kna_111 : ∀ m, m < 111 → (kd_ok (kx_b m) (kx_m m).2.2.2.2 && lnOk (kx_m m).2.2.2.2) = true := lt_s kna_110 kn_110
theorem kna_112 : ∀ m, m < 112 → (kd_ok (kx_b m) (kx_m m).2.2.2.2 && lnOk (kx_m m).2.2.2.2) = true := lt_s kna_111 kn_111
theorem kna_113 : ∀ m, m < 113 → (kd_ok (kx_b m) (kx_m m).2.2.2.2 && lnOk (kx_m m).2.2.2.2) = true := lt_s kna_112 kn_112
theorem kna_114 : ∀ m, m < 114 → (kd_ok (kx_b m) (kx_m m).2.2.2.2 && lnOk (kx_m m).2.2.2.2) = true := lt_s kna_113 kn_113
theorem kna_115 : ∀ m, m < 115 → (kd_ok (kx_b m) (kx_m m).2.2.2.2 && lnOk (kx_m m).2.2.2.2) = true := lt_s kna_114 kn_114
theorem kna_116 : ∀ m, m < 116 → (kd_ok (kx_b m) (kx_m m).2.2.2.2 && lnOk (kx_m m).2.2.2.2) = true := lt_s kna_115 kn_115
theorem kna_117 : ∀ m, m < 117 → (kd_ok (kx_b m) (kx_m m).2.2.2.2 && lnOk (kx_m m).2.2.2.2) = true := lt_s kna_116 kn_116
theorem kna_118 : ∀ m, m < 118 → (kd_ok (kx_b m) (kx_m m).2.2.2.2 && lnOk (kx_m m).2.2.2.2) = true := lt_s kna_117 kn_117
theorem kna_119 : ∀ m, m < 119 → (kd_ok (kx_b m) (kx_m m).2.2.2.2 && lnOk (kx_m m).2.2.2.2) = true := lt_s kna_118 kn_118
theorem kna_120 : ∀ m, m < 120 → (kd_ok (kx_b m) (kx_m m).2.2.2.2 && lnOk (kx_m m).2.2.2.2) = true := lt_s kna_119 kn_119
theorem kna_121 : ∀ m, m < 121 → (kd_ok (kx_b m) (kx_m m).2.2.2.2 && lnOk (kx_m m).2.2.2.2) = true := lt_s kna_120 kn_120
theorem kna_122 : ∀ m, m < 122 → (kd_ok (kx_b m) (kx_m m).2.2.2.2 && lnOk (kx_m m).2.2.2.2) = true := lt_s kna_121 kn_121
theorem kna_123 : ∀ m, m < 123 → (kd_ok (kx_b m) (kx_m m).2.2.2.2 && lnOk (kx_m m).2.2.2.2) = true := lt_s kna_122 kn_122
theorem kna_124 : ∀ m, m < 124 → (kd_ok (kx_b m) (kx_m m).2.2.2.2 && lnOk (kx_m m).2.2.2.2) = true := lt_s kna_123 kn_123
theorem kna_125 : ∀ m, m < 125 → (kd_ok (kx_b m) (kx_m m).2.2.2.2 && lnOk (kx_m m).2.2.2.2) = true := lt_s kna_124 kn_124
theorem kna_126 : ∀ m, m < 126 → (kd_ok (kx_b m) (kx_m m).2.2.2.2 && lnOk (kx_m m).2.2.2.2) = true := lt_s kna_125 kn_125
theorem kna_127 : ∀ m, m < 127 → (kd_ok (kx_b m) (kx_m m).2.2.2.2 && lnOk (kx_m m).2.2.2.2) = true := lt_s kna_126 kn_126
theorem kna_128 : ∀ m, m < 128 → (kd_ok (kx_b m) (kx_m m).2.2.2.2 && lnOk (kx_m m).2.2.2.2) = true := lt_s kna_127 kn_127
theorem kna_129 : ∀ m, m < 129 → (kd_ok (kx_b m) (kx_m m).2.2.2.2 && lnOk (kx_m m).2.2.2.2) = true := lt_s kna_128 kn_128
theorem kna_130 : ∀ m, m < 130 → (kd_ok (kx_b m) (kx_m m).2.2.2.2 && lnOk (kx_m m).2.2.2.2) = true := lt_s kna_129 kn_129
theorem kna_131 : ∀ m, m < 131 → (kd_ok (kx_b m) (kx_m m).2.2.2.2 && lnOk (kx_m m).2.2.2.2) = true := lt_s kna_130 kn_130
theorem kna_132 : ∀ m, m < 132 → (kd_ok (kx_b m) (kx_m m).2.2.2.2 && lnOk (kx_m m).2.2.2.2) = true := lt_s kna_131 kn_131
theorem kna_133 : ∀ m, m < 133 → (kd_ok (kx_b m) (kx_m m).2.2.2.2 && lnOk (kx_m m).2.2.2.2) = true := lt_s kna_132 kn_132
theorem kna_134 : ∀ m, m < 134 → (kd_ok (kx_b m) (kx_m m).2.2.2.2 && lnOk (kx_m m).2.2.2.2) = true := lt_s kna_133 kn_133
theorem kna_135 : ∀ m, m < 135 → (kd_ok (kx_b m) (kx_m m).2.2.2.2 && lnOk (kx_m m).2.2.2.2) = true := lt_s kna_134 kn_134
theorem kna_136 : ∀ m, m < 136 → (kd_ok (kx_b m) (kx_m m).2.2.2.2 && lnOk (kx_m m).2.2.2.2) = true := lt_s kna_135 kn_135
theorem kna_137 : ∀ m, m < 137 → (kd_ok (kx_b m) (kx_m m).2.2.2.2 && lnOk (kx_m m).2.2.2.2) = true := lt_s kna_136 kn_136
theorem kna_138 : ∀ m, m < 138 → (kd_ok (kx_b m) (kx_m m).2.2.2.2 && lnOk (kx_m m).2.2.2.2) = true := lt_s kna_137 kn_137
theorem kna_139 : ∀ m, m < 139 → (kd_ok (kx_b m) (kx_m m).2.2.2.2 && lnOk (kx_m m).2.2.2.2) = true := lt_s kna_138 kn_138
theorem kna_140 : ∀ m, m < 140 → (kd_ok (kx_b m) (kx_m m).2.2.2.2 && lnOk (kx_m m).2.2.2.2) = true := lt_s kna_139 kn_139
theorem kna_141 : ∀ m, m < 141 → (kd_ok (kx_b m) (kx_m m).2.2.2.2 && lnOk (kx_m m).2.2.2.2) = true := lt_s kna_140 kn_140
theorem kna_142 : ∀ m, m < 142 → (kd_ok (kx_b m) (kx_m m).2.2.2.2 && lnOk (kx_m m).2.2.2.2) = true := lt_s kna_141 kn_141
theorem kna_143 : ∀ m, m < 143 → (kd_ok (kx_b m) (kx_m m).2.2.2.2 && lnOk (kx_m m).2.2.2.2) = true := lt_s kna_142 kn_142
theorem kna_144 : ∀ m, m < 144 → (kd_ok (kx_b m) (kx_m m).2.2.2.2 && lnOk (kx_m m).2.2.2.2) = true := lt_s kna_143 kn_143
theorem kna_145 : ∀ m, m < 145 → (kd_ok (kx_b m) (kx_m m).2.2.2.2 && lnOk (kx_m m).2.2.2.2) = true := lt_s kna_144 kn_144
theorem kna_146 : ∀ m, m < 146 → (kd_ok (kx_b m) (kx_m m).2.2.2.2 && lnOk (kx_m m).2.2.2.2) = true := lt_s kna_145 kn_145
theorem kna_147 : ∀ m, m < 147 → (kd_ok (kx_b m) (kx_m m).2.2.2.2 && lnOk (kx_m m).2.2.2.2) = true := lt_s kna_146 kn_146
theorem kna_148 : ∀ m, m < 148 → (kd_ok (kx_b m) (kx_m m).2.2.2.2 && lnOk (kx_m m).2.2.2.2) = true := lt_s kna_147 kn_147
theorem kna_149 : ∀ m, m < 149 → (kd_ok (kx_b m) (kx_m m).2.2.2.2 && lnOk (kx_m m).2.2.2.2) = true := lt_s kna_148 kn_148
theorem kna_150 : ∀ m, m < 150 → (kd_ok (kx_b m) (kx_m m).2.2.2.2 && lnOk (kx_m m).2.2.2.2) = true := lt_s kna_149 kn_149
theorem kna_151 : ∀ m, m < 151 → (kd_ok (kx_b m) (kx_m m).2.2.2.2 && lnOk (kx_m m).2.2.2.2) = true := lt_s kna_150 kn_150
theorem kna_152 : ∀ m, m < 152 → (kd_ok (kx_b m) (kx_m m).2.2.2.2 && lnOk (kx_m m).2.2.2.2) = true := lt_s kna_151 kn_151
theorem kna_153 : ∀ m, m < 153 → (kd_ok (kx_b m) (kx_m m).2.2.2.2 && lnOk (kx_m m).2.2.2.2) = true := lt_s kna_152 kn_152
theorem kna_154 : ∀ m, m < 154 → (kd_ok (kx_b m) (kx_m m).2.2.2.2 && lnOk (kx_m m).2.2.2.2) = true := lt_s kna_153 kn_153
theorem kna_155 : ∀ m, m < 155 → (kd_ok (kx_b m) (kx_m m).2.2.2.2 && lnOk (kx_m m).2.2.2.2) = true := lt_s kna_154 kn_154
theorem kna_156 : ∀ m, m < 156 → (kd_ok (kx_b m) (kx_m m).2.2.2.2 && lnOk (kx_m m).2.2.2.2) = true := lt_s kna_155 kn_155
theorem kna_157 : ∀ m, m < 157 → (kd_ok (kx_b m) (kx_m m).2.2.2.2 && lnOk (kx_m m).2.2.2.2) = true := lt_s kna_156 kn_156
theorem kna_158 : ∀ m, m < 158 → (kd_ok (kx_b m) (kx_m m).2.2.2.2 && lnOk (kx_m m).2.2.2.2) = true := lt_s kna_157 kn_157
theorem kna_159 : ∀ m, m < 159 → (kd_ok (kx_b m) (kx_m m).2.2.2.2 && lnOk (kx_m m).2.2.2.2) = true := lt_s kna_158 kn_158
theorem kna_160 : ∀ m, m < 160 → (kd_ok (kx_b m) (kx_m m).2.2.2.2 && lnOk (kx_m m).2.2.2.2) = true := lt_s kna_159 kn_159
theorem kna_161 : ∀ m, m < 161 → (kd_ok (kx_b m) (kx_m m).2.2.2.2 && lnOk (kx_m m).2.2.2.2) = true := lt_s kna_160 kn_160
theorem kna_162 : ∀ m, m < 162 → (kd_ok (kx_b m) (kx_m m).2.2.2.2 && lnOk (kx_m m).2.2.2.2) = true := lt_s kna_161 kn_161
theorem kna_163 : ∀ m, m < 163 → (kd_ok (kx_b m) (kx_m m).2.2.2.2 && lnOk (kx_m m).2.2.2.2) = true := lt_s kna_162 kn_162
theorem kna_164 : ∀ m, m < 164 → (kd_ok (kx_b m) (kx_m m).2.2.2.2 && lnOk (kx_m m).2.2.2.2) = true := lt_s kna_163 kn_163
theorem kna_165 : ∀ m, m < 165 → (kd_ok (kx_b m) (kx_m m).2.2.2.2 && lnOk (kx_m m).2.2.2.2) = true := lt_s kna_164 kn_164
theorem kna_166 : ∀ m, m < 166 → (kd_ok (kx_b m) (kx_m m).2.2.2.2 && lnOk (kx_m m).2.2.2.2) = true := lt_s kna_165 kn_165
theorem kna_167 : ∀ m, m < 167 → (kd_ok (kx_b m) (kx_m m).2.2.2.2 && lnOk (kx_m m).2.2.2.2) = true := lt_s kna_166 kn_166
theorem kna_168 : ∀ m, m < 168 → (kd_ok (kx_b m) (kx_m m).2.2.2.2 && lnOk (kx_m m).2.2.2.2) = true := lt_s kna_167 kn_167
theorem kna_169 : ∀ m, m < 169 → (kd_ok (kx_b m) (kx_m m).2.2.2.2 && lnOk (kx_m m).2.2.2.2) = true := lt_s kna_168 kn_168
theorem kna_170 : ∀ m, m < 170 → (kd_ok (kx_b m) (kx_m m).2.2.2.2 && lnOk (kx_m m).2.2.2.2) = true := lt_s kna_169 kn_169
theorem kna_171 : ∀ m, m < 171 → (kd_ok (kx_b m) (kx_m m).2.2.2.2 && lnOk (kx_m m).2.2.2.2) = true := lt_s kna_170 kn_170
theorem kna_172 : ∀ m, m < 172 → (kd_ok (kx_b m) (kx_m m).2.2.2.2 && lnOk (kx_m m).2.2.2.2) = true := lt_s kna_171 kn_171
theorem kna_173 : ∀ m, m < 173 → (kd_ok (kx_b m) (kx_m m).2.2.2.2 && lnOk (kx_m m).2.2.2.2) = true := lt_s kna_172 kn_172
theorem kna_174 : ∀ m, m < 174 → (kd_ok (kx_b m) (kx_m m).2.2.2.2 && lnOk (kx_m m).2.2.2.2) = true := lt_s kna_173 kn_173
theorem kna_175 : ∀ m, m < 175 → (kd_ok (kx_b m) (kx_m m).2.2.2.2 && lnOk (kx_m m).2.2.2.2) = true := lt_s kna_174 kn_174
theorem kna_176 : ∀ m, m < 176 → (kd_ok (kx_b m) (kx_m m).2.2.2.2 && lnOk (kx_m m).2.2.2.2) = true := lt_s kna_175 kn_175
theorem kna_177 : ∀ m, m < 177 → (kd_ok (kx_b m) (kx_m m).2.2.2.2 && lnOk (kx_m m).2.2.2.2) = true := lt_s kna_176 kn_176
theorem kna_178 : ∀ m, m < 178 → (kd_ok (kx_b m) (kx_m m).2.2.2.2 && lnOk (kx_m m).2.2.2.2) = true := lt_s kna_177 kn_177
theorem kna_179 : ∀ m, m < 179 → (kd_ok (kx_b m) (kx_m m).2.2.2.2 && lnOk (kx_m m).2.2.2.2) = true := lt_s kna_178 kn_178
theorem kna_180 : ∀ m, m < 180 → (kd_ok (kx_b m) (kx_m m).2.2.2.2 && lnOk (kx_m m).2.2.2.2) = true := lt_s kna_179 kn_179
theorem kna_181 : ∀ m, m < 181 → (kd_ok (kx_b m) (kx_m m).2.2.2.2 && lnOk (kx_m m).2.2.2.2) = true := lt_s kna_180 kn_180
theorem kna_182 : ∀ m, m < 182 → (kd_ok (kx_b m) (kx_m m).2.2.2.2 && lnOk (kx_m m).2.2.2.2) = true := lt_s kna_181 kn_181
theorem kna_183 : ∀ m, m < 183 → (kd_ok (kx_b m) (kx_m m).2.2.2.2 && lnOk (kx_m m).2.2.2.2) = true := lt_s kna_182 kn_182
theorem kna_184 : ∀ m, m < 184 → (kd_ok (kx_b m) (kx_m m).2.2.2.2 && lnOk (kx_m m).2.2.2.2) = true := lt_s kna_183 kn_183
theorem kna_185 : ∀ m, m < 185 → (kd_ok (kx_b m) (kx_m m).2.2.2.2 && lnOk (kx_m m).2.2.2.2) = true := lt_s kna_184 kn_184
theorem kna_186 : ∀ m, m < 186 → (kd_ok (kx_b m) (kx_m m).2.2.2.2 && lnOk (kx_m m).2.2.2.2) = true := lt_s kna_185 kn_185
theorem kna_187 : ∀ m, m < 187 → (kd_ok (kx_b m) (kx_m m).2.2.2.2 && lnOk (kx_m m).2.2.2.2) = true := lt_s kna_186 kn_186
theorem kna_188 : ∀ m, m < 188 → (kd_ok (kx_b m) (kx_m m).2.2.2.2 && lnOk (kx_m m).2.2.2.2) = true := lt_s kna_187 kn_187
theorem kna_189 : ∀ m, m < 189 → (kd_ok (kx_b m) (kx_m m).2.2.2.2 && lnOk (kx_m m).2.2.2.2) = true := lt_s kna_188 kn_188
theorem kna_190 : ∀ m, m < 190 → (kd_ok (kx_b m) (kx_m m).2.2.2.2 && lnOk (kx_m m).2.2.2.2) = true := lt_s kna_189 kn_189
theorem kna_191 : ∀ m, m < 191 → (kd_ok (kx_b m) (kx_m m).2.2.2.2 && lnOk (kx_m m).2.2.2.2) = true := lt_s kna_190 kn_190
theorem kna_192 : ∀ m, m < 192 → (kd_ok (kx_b m) (kx_m m).2.2.2.2 && lnOk (kx_m m).2.2.2.2) = true := lt_s kna_191 kn_191
theorem kna_193 : ∀ m, m < 193 → (kd_ok (kx_b m) (kx_m m).2.2.2.2 && lnOk (kx_m m).2.2.2.2) = true := lt_s kna_192 kn_192
theorem kna_194 : ∀ m, m < 194 → (kd_ok (kx_b m) (kx_m m).2.2.2.2 && lnOk (kx_m m).2.2.2.2) = true := lt_s kna_193 kn_193
theorem kna_195 : ∀ m, m < 195 → (kd_ok (kx_b m) (kx_m m).2.2.2.2 && lnOk (kx_m m).2.2.2.2) = true := lt_s kna_194 kn_194
theorem kna_196 : ∀ m, m < 196 → (kd_ok (kx_b m) (kx_m m).2.2.2.2 && lnOk (kx_m m).2.2.2.2) = true := lt_s kna_195 kn_195
theorem kna_197 : ∀ m, m < 197 → (kd_ok (kx_b m) (kx_m m).2.2.2.2 && lnOk (kx_m m).2.2.2.2) = true := lt_s kna_196 kn_196
theorem kna_198 : ∀ m, m < 198 → (kd_ok (kx_b m) (kx_m m).2.2.2.2 && lnOk (kx_m m).2.2.2.2) = true := lt_s kna_197 kn_197
theorem kna_199 : ∀ m, m < 199 → (kd_ok (kx_b m) (kx_m m).2.2.2.2 && lnOk (kx_m m).2.2.2.2) = true := lt_s kna_198 kn_198
theorem kna_200 : ∀ m, m < 200 → (kd_ok (kx_b m) (kx_m m).2.2.2.2 && lnOk (kx_m m).2.2.2.2) = true := lt_s kna_199 kn_199
theorem kna_201 : ∀ m, m < 201 → (kd_ok (kx_b m) (kx_m m).2.2.2.2 && lnOk (kx_m m).2.2.2.2) = true := lt_s kna_200 kn_200
theorem kna_202 : ∀ m, m < 202 → (kd_ok (kx_b m) (kx_m m).2.2.2.2 && lnOk (kx_m m).2.2.2.2) = true := lt_s kna_201 kn_201
theorem kna_203 : ∀ m, m < 203 → (kd_ok (kx_b m) (kx_m m).2.2.2.2 && lnOk (kx_m m).2.2.2.2) = true := lt_s kna_202 kn_202
theorem kna_204 : ∀ m, m < 204 → (kd_ok (kx_b m) (kx_m m).2.2.2.2 && lnOk (kx_m m).2.2.2.2) = true := lt_s kna_203 kn_203
theorem kna_205 : ∀ m, m < 205 → (kd_ok (kx_b m) (kx_m m).2.2.2.2 && lnOk (kx_m m).2.2.2.2) = true := lt_s kna_204 kn_204
theorem kna_206 : ∀ m, m < 206 → (kd_ok (kx_b m) (kx_m m).2.2.2.2 && lnOk (kx_m m).2.2.2.2) = true := lt_s kna_205 kn_205
theorem kna_207 : ∀ m, m < 207 → (kd_ok (kx_b m) (kx_m m).2.2.2.2 && lnOk (kx_m m).2.2.2.2) = true := lt_s kna_206 kn_206
theorem kna_208 : ∀ m, m < 208 → (kd_ok (kx_b m) (kx_m m).2.2.2.2 && lnOk (kx_m m).2.2.2.2) = true := lt_s kna_207 kn_207
theorem kna_209 : ∀ m, m < 209 → (kd_ok (kx_b m) (kx_m m).2.2.2.2 && lnOk (kx_m m).2.2.2.2) = true := lt_s kna_208 kn_208
theorem kna_210 : ∀ m, m < 210 → (kd_ok (kx_b m) (kx_m m).2.2.2.2 && lnOk (kx_m m).2.2.2.2) = true := lt_s kna_209 kn_209
theorem kna_211 : ∀ m, m < 211 → (kd_ok (kx_b m) (kx_m m).2.2.2.2 && lnOk (kx_m m).2.2.2.2) = true := lt_s kna_210 kn_210
theorem kna_212 : ∀ m, m < 212 → (kd_ok (kx_b m) (kx_m m).2.2.2.2 && lnOk (kx_m m).2.2.2.2) = true := lt_s kna_211 kn_211
theorem kna_213 : ∀ m, m < 213 → (kd_ok (kx_b m) (kx_m m).2.2.2.2 && lnOk (kx_m m).2.2.2.2) = true := lt_s kna_212 kn_212
theorem kna_214 : ∀ m, m < 214 → (kd_ok (kx_b m) (kx_m m).2.2.2.2 && lnOk (kx_m m).2.2.2.2) = true := lt_s kna_213 kn_213
theorem kna_215 : ∀ m, m < 215 → (kd_ok (kx_b m) (kx_m m).2.2.2.2 && lnOk (kx_m m).2.2.2.2) = true := lt_s kna_214 kn_214
theorem kna_216 : ∀ m, m < 216 → (kd_ok (kx_b m) (kx_m m).2.2.2.2 && lnOk (kx_m m).2.2.2.2) = true := lt_s kna_215 kn_215
theorem kna_217 : ∀ m, m < 217 → (kd_ok (kx_b m) (kx_m m).2.2.2.2 && lnOk (kx_m m).2.2.2.2) = true := lt_s kna_216 kn_216
theorem kna_218 : ∀ m, m < 218 → (kd_ok (kx_b m) (kx_m m).2.2.2.2 && lnOk (kx_m m).2.2.2.2) = true := lt_s kna_217 kn_217
theorem kna_219 : ∀ m, m < 219 → (kd_ok (kx_b m) (kx_m m).2.2.2.2 && lnOk (kx_m m).2.2.2.2) = true := lt_s kna_218 kn_218
theorem kna_220 : ∀ m, m < 220 → (kd_ok (kx_b m) (kx_m m).2.2.2.2 && lnOk (kx_m m).2.2.2.2) = true := lt_s kna_219 kn_219
theorem kna_221 : ∀ m, m < 221 → (kd_ok (kx_b m) (kx_m m).2.2.2.2 && lnOk (kx_m m).2.2.2.2) = true := lt_s kna_220 kn_220
theorem kna_222 : ∀ m, m < 222 → (kd_ok (kx_b m) (kx_m m).2.2.2.2 && lnOk (kx_m m).2.2.2.2) = true := lt_s kna_221 kn_221
theorem kna_223 : ∀ m, m < 223 → (kd_ok (kx_b m) (kx_m m).2.2.2.2 && lnOk (kx_m m).2.2.2.2) = true := lt_s kna_222 kn_222
theorem kna_224 : ∀ m, m < 224 → (kd_ok (kx_b m) (kx_m m).2.2.2.2 && lnOk (kx_m m).2.2.2.2) = true := lt_s kna_223 kn_223
theorem kna_225 : ∀ m, m < 225 → (kd_ok (kx_b m) (kx_m m).2.2.2.2 && lnOk (kx_m m).2.2.2.2) = true := lt_s kna_224 kn_224
theorem kna_226 : ∀ m, m < 226 → (kd_ok (kx_b m) (kx_m m).2.2.2.2 && lnOk (kx_m m).2.2.2.2) = true := lt_s kna_225 kn_225
theorem kna_227 : ∀ m, m < 227 → (kd_ok (kx_b m) (kx_m m).2.2.2.2 && lnOk (kx_m m).2.2.2.2) = true := lt_s kna_226 kn_226
theorem kna_228 : ∀ m, m < 228 → (kd_ok (kx_b m) (kx_m m).2.2.2.2 && lnOk (kx_m m).2.2.2.2) = true := lt_s kna_227 kn_227
theorem kna_229 : ∀ m, m < 229 → (kd_ok (kx_b m) (kx_m m).2.2.2.2 && lnOk (kx_m m).2.2.2.2) = true := lt_s kna_228 kn_228
theorem kna_230 : ∀ m, m < 230 → (kd_ok (kx_b m) (kx_m m).2.2.2.2 && lnOk (kx_m m).2.2.2.2) = true := lt_s kna_229 kn_229
theorem kna_231 : ∀ m, m < 231 → (kd_ok (kx_b m) (kx_m m).2.2.2.2 && lnOk (kx_m m).2.2.2.2) = true := lt_s kna_230 kn_230
theorem kna_232 : ∀ m, m < 232 → (kd_ok (kx_b m) (kx_m m).2.2.2.2 && lnOk (kx_m m).2.2.2.2) = true := lt_s kna_231 kn_231
theorem kna_233 : ∀ m, m < 233 → (kd_ok (kx_b m) (kx_m m).2.2.2.2 && lnOk (kx_m m).2.2.2.2) = true := lt_s kna_232 kn_232
theorem kna_234 : ∀ m, m < 234 → (kd_ok (kx_b m) (kx_m m).2.2.2.2 && lnOk (kx_m m).2.2.2.2) = true := lt_s kna_233 kn_233
theorem kna_235 : ∀ m, m < 235 → (kd_ok (kx_b m) (kx_m m).2.2.2.2 && lnOk (kx_m m).2.2.2.2) = true := lt_s kna_234 kn_234
theorem kna_236 : ∀ m, m < 236 → (kd_ok (kx_b m) (kx_m m).2.2.2.2 && lnOk (kx_m m).2.2.2.2) = true := lt_s kna_235 kn_235
theorem kna_237 : ∀ m, m < 237 → (kd_ok (kx_b m) (kx_m m).2.2.2.2 && lnOk (kx_m m).2.2.2.2) = true := lt_s kna_236 kn_236
theorem kna_238 : ∀ m, m < 238 → (kd_ok (kx_b m) (kx_m m).2.2.2.2 && lnOk (kx_m m).2.2.2.2) = true := lt_s kna_237 kn_237
theorem kna_239 : ∀ m, m < 239 → (kd_ok (kx_b m) (kx_m m).2.2.2.2 && lnOk (kx_m m).2.2.2.2) = true := lt_s kna_238 kn_238
theorem kna_240 : ∀ m, m < 240 → (kd_ok (kx_b m) (kx_m m).2.2.2.2 && lnOk (kx_m m).2.2.2.2) = true := lt_s kna_239 kn_239
theorem kna_241 : ∀ m, m < 241 → (kd_ok (kx_b m) (kx_m m).2.2.2.2 && lnOk (kx_m m).2.2.2.2) = true := lt_s kna_240 kn_240
theorem kna_242 : ∀ m, m < 242 → (kd_ok (kx_b m) (kx_m m).2.2.2.2 && lnOk (kx_m m).2.2.2.2) = true := lt_s kna_241 kn_241
theorem kna_243 : ∀ m, m < 243 → (kd_ok (kx_b m) (kx_m m).2.2.2.2 && lnOk (kx_m m).2.2.2.2) = true := lt_s kna_242 kn_242
theorem kna_244 : ∀ m, m < 244 → (kd_ok (kx_b m) (kx_m m).2.2.2.2 && lnOk (kx_m m).2.2.2.2) = true := lt_s kna_243 kn_243
theorem kna_245 : ∀ m, m < 245 → (kd_ok (kx_b m) (kx_m m).2.2.2.2 && lnOk (kx_m m).2.2.2.2) = true := lt_s kna_244 kn_244
theorem kna_246 : ∀ m, m < 246 → (kd_ok (kx_b m) (kx_m m).2.2.2.2 && lnOk (kx_m m).2.2.2.2) = true := lt_s kna_245 kn_245
theorem kna_247 : ∀ m, m < 247 → (kd_ok (kx_b m) (kx_m m).2.2.2.2 && lnOk (kx_m m).2.2.2.2) = true := lt_s kna_246 kn_246
theorem kna_248 : ∀ m, m < 248 → (kd_ok (kx_b m) (kx_m m).2.2.2.2 && lnOk (kx_m m).2.2.2.2) = true := lt_s kna_247 kn_247
theorem kna_249 : ∀ m, m < 249 → (kd_ok (kx_b m) (kx_m m).2.2.2.2 && lnOk (kx_m m).2.2.2.2) = true := lt_s kna_248 kn_248
theorem kna_250 : ∀ m, m < 250 → (kd_ok (kx_b m) (kx_m m).2.2.2.2 && lnOk (kx_m m).2.2.2.2) = true := lt_s kna_249 kn_249
theorem kna_251 : ∀ m, m < 251 → (kd_ok (kx_b m) (kx_m m).2.2.2.2 && lnOk (kx_m m).2.2.2.2) = true := lt_s kna_250 kn_250
theorem kna_252 : ∀ m, m < 252 → (kd_ok (kx_b m) (kx_m m).2.2.2.2 && lnOk (kx_m m).2.2.2.2) = true := lt_s kna_251 kn_251
theorem kna_253 : ∀ m, m < 253 → (kd_ok (kx_b m) (kx_m m).2.2.2.2 && lnOk (kx_m m).2.2.2.2) = true := lt_s kna_252 kn_252
theorem kna_254 : ∀ m, m < 254 → (kd_ok (kx_b m) (kx_m m).2.2.2.2 && lnOk (kx_m m).2.2.2.2) = true := lt_s kna_253 kn_253
theorem kna_255 : ∀ m, m < 255 → (kd_ok (kx_b m) (kx_m m).2.2.2.2 && lnOk (kx_m m).2.2.2.2) = true := lt_s kna_254 kn_254
theorem kna_256 : ∀ m, m < 256 → (kd_ok (kx_b m) (kx_m m).2.2.2.2 && lnOk (kx_m m).2.2.2.2) = true := lt_s kna_255 kn_255
theorem kna_257 : ∀ m, m < 257 → (kd_ok (kx_b m) (kx_m m).2.2.2.2 && lnOk (kx_m m).2.2.2.2) = true := lt_s kna_256 kn_256
theorem kna_258 : ∀ m, m < 258 → (kd_ok (kx_b m) (kx_m m).2.2.2.2 && lnOk (kx_m m).2.2.2.2) = true := lt_s kna_257 kn_257
theorem knl : lnOk kc_law = true := by decide +kernel
