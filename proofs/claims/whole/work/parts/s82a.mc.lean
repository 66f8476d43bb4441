set_option maxRecDepth 100000 in
theorem mc_0 : Jvm.Cond.code (myY 0) (myB 0) (myM 0) (myR 0) ∈ tables_1 := List.mem_of_getElem? (i := 312) rfl
set_option maxRecDepth 100000 in
theorem mc_1 : Jvm.Cond.code (myY 1) (myB 1) (myM 1) (myR 1) ∈ tables_1 := List.mem_of_getElem? (i := 1004) rfl
set_option maxRecDepth 100000 in
theorem mc_2 : Jvm.Cond.code (myY 2) (myB 2) (myM 2) (myR 2) ∈ tables_1 := List.mem_of_getElem? (i := 999) rfl
set_option maxRecDepth 100000 in
theorem mc_3 : Jvm.Cond.code (myY 3) (myB 3) (myM 3) (myR 3) ∈ tables_1 := List.mem_of_getElem? (i := 1160) rfl
set_option maxRecDepth 100000 in
theorem mc_4 : Jvm.Cond.code (myY 4) (myB 4) (myM 4) (myR 4) ∈ tables_1 := List.mem_of_getElem? (i := 1178) rfl
set_option maxRecDepth 100000 in
theorem mc_5 : Jvm.Cond.code (myY 5) (myB 5) (myM 5) (myR 5) ∈ tables_1 := List.mem_of_getElem? (i := 1164) rfl
set_option maxRecDepth 100000 in
theorem mc_6 : Jvm.Cond.code (myY 6) (myB 6) (myM 6) (myR 6) ∈ tables_1 := List.mem_of_getElem? (i := 1170) rfl
set_option maxRecDepth 100000 in
theorem mc_7 : Jvm.Cond.code (myY 7) (myB 7) (myM 7) (myR 7) ∈ tables_1 := List.mem_of_getElem? (i := 269) rfl
set_option maxRecDepth 100000 in
theorem mc_8 : Jvm.Cond.code (myY 8) (myB 8) (myM 8) (myR 8) ∈ tables_1 := List.mem_of_getElem? (i := 1019) rfl
set_option maxRecDepth 100000 in
theorem mc_9 : Jvm.Cond.code (myY 9) (myB 9) (myM 9) (myR 9) ∈ tables_1 := List.mem_of_getElem? (i := 1015) rfl
set_option maxRecDepth 100000 in
theorem mc_10 : Jvm.Cond.code (myY 10) (myB 10) (myM 10) (myR 10) ∈ tables_1 := List.mem_of_getElem? (i := 1051) rfl
set_option maxRecDepth 100000 in
theorem mc_11 : Jvm.Cond.code (myY 11) (myB 11) (myM 11) (myR 11) ∈ tables_1 := List.mem_of_getElem? (i := 1039) rfl
set_option maxRecDepth 100000 in
theorem mc_12 : Jvm.Cond.code (myY 12) (myB 12) (myM 12) (myR 12) ∈ tables_1 := List.mem_of_getElem? (i := 1043) rfl
set_option maxRecDepth 100000 in
theorem mc_13 : Jvm.Cond.code (myY 13) (myB 13) (myM 13) (myR 13) ∈ tables_1 := List.mem_of_getElem? (i := 341) rfl
set_option maxRecDepth 100000 in
theorem mc_14 : Jvm.Cond.code (myY 14) (myB 14) (myM 14) (myR 14) ∈ tables_1 := List.mem_of_getElem? (i := 717) rfl
set_option maxRecDepth 100000 in
theorem mc_15 : Jvm.Cond.code (myY 15) (myB 15) (myM 15) (myR 15) ∈ tables_1 := List.mem_of_getElem? (i := 877) rfl
set_option maxRecDepth 100000 in
theorem mc_16 : Jvm.Cond.code (myY 16) (myB 16) (myM 16) (myR 16) ∈ tables_1 := List.mem_of_getElem? (i := 900) rfl
set_option maxRecDepth 100000 in
theorem mc_17 : Jvm.Cond.code (myY 17) (myB 17) (myM 17) (myR 17) ∈ tables_1 := List.mem_of_getElem? (i := 908) rfl
set_option maxRecDepth 100000 in
theorem mc_18 : Jvm.Cond.code (myY 18) (myB 18) (myM 18) (myR 18) ∈ tables_1 := List.mem_of_getElem? (i := 895) rfl
set_option maxRecDepth 100000 in
theorem mc_19 : Jvm.Cond.code (myY 19) (myB 19) (myM 19) (myR 19) ∈ tables_1 := List.mem_of_getElem? (i := 891) rfl
set_option maxRecDepth 100000 in
theorem mc_20 : Jvm.Cond.code (myY 20) (myB 20) (myM 20) (myR 20) ∈ tables_1 := List.mem_of_getElem? (i := 904) rfl
set_option maxRecDepth 100000 in
theorem mc_21 : Jvm.Cond.code (myY 21) (myB 21) (myM 21) (myR 21) ∈ tables_1 := List.mem_of_getElem? (i := 926) rfl
set_option maxRecDepth 100000 in
theorem mc_22 : Jvm.Cond.code (myY 22) (myB 22) (myM 22) (myR 22) ∈ tables_1 := List.mem_of_getElem? (i := 922) rfl
set_option maxRecDepth 100000 in
theorem mc_23 : Jvm.Cond.code (myY 23) (myB 23) (myM 23) (myR 23) ∈ tables_1 := List.mem_of_getElem? (i := 930) rfl
set_option maxRecDepth 100000 in
theorem mc_24 : Jvm.Cond.code (myY 24) (myB 24) (myM 24) (myR 24) ∈ tables_1 := List.mem_of_getElem? (i := 938) rfl
set_option maxRecDepth 100000 in
theorem mc_25 : Jvm.Cond.code (myY 25) (myB 25) (myM 25) (myR 25) ∈ tables_1 := List.mem_of_getElem? (i := 982) rfl
set_option maxRecDepth 100000 in
theorem mc_26 : Jvm.Cond.code (myY 26) (myB 26) (myM 26) (myR 26) ∈ tables_1 := List.mem_of_getElem? (i := 978) rfl
set_option maxRecDepth 100000 in
theorem mc_27 : Jvm.Cond.code (myY 27) (myB 27) (myM 27) (myR 27) ∈ tables_1 := List.mem_of_getElem? (i := 991) rfl
set_option maxRecDepth 100000 in
theorem mc_28 : Jvm.Cond.code (myY 28) (myB 28) (myM 28) (myR 28) ∈ tables_1 := List.mem_of_getElem? (i := 235) rfl
set_option maxRecDepth 100000 in
theorem mc_29 : Jvm.Cond.code (myY 29) (myB 29) (myM 29) (myR 29) ∈ tables_1 := List.mem_of_getElem? (i := 713) rfl
set_option maxRecDepth 100000 in
theorem mc_30 : Jvm.Cond.code (myY 30) (myB 30) (myM 30) (myR 30) ∈ tables_1 := List.mem_of_getElem? (i := 881) rfl
set_option maxRecDepth 100000 in
theorem mc_31 : Jvm.Cond.code (myY 31) (myB 31) (myM 31) (myR 31) ∈ tables_1 := List.mem_of_getElem? (i := 746) rfl
set_option maxRecDepth 100000 in
theorem mc_32 : Jvm.Cond.code (myY 32) (myB 32) (myM 32) (myR 32) ∈ tables_1 := List.mem_of_getElem? (i := 750) rfl
set_option maxRecDepth 100000 in
theorem mc_33 : Jvm.Cond.code (myY 33) (myB 33) (myM 33) (myR 33) ∈ tables_1 := List.mem_of_getElem? (i := 794) rfl
set_option maxRecDepth 100000 in
theorem mc_34 : Jvm.Cond.code (myY 34) (myB 34) (myM 34) (myR 34) ∈ tables_1 := List.mem_of_getElem? (i := 798) rfl
set_option maxRecDepth 100000 in
theorem mc_35 : Jvm.Cond.code (myY 35) (myB 35) (myM 35) (myR 35) ∈ tables_1 := List.mem_of_getElem? (i := 755) rfl
set_option maxRecDepth 100000 in
theorem mc_36 : Jvm.Cond.code (myY 36) (myB 36) (myM 36) (myR 36) ∈ tables_1 := List.mem_of_getElem? (i := 913) rfl
set_option maxRecDepth 100000 in
theorem mc_37 : Jvm.Cond.code (myY 37) (myB 37) (myM 37) (myR 37) ∈ tables_1 := List.mem_of_getElem? (i := 1024) rfl
set_option maxRecDepth 100000 in
theorem mc_38 : Jvm.Cond.code (myY 38) (myB 38) (myM 38) (myR 38) ∈ tables_1 := List.mem_of_getElem? (i := 917) rfl
set_option maxRecDepth 100000 in
theorem mc_39 : Jvm.Cond.code (myY 39) (myB 39) (myM 39) (myR 39) ∈ tables_1 := List.mem_of_getElem? (i := 46) rfl
set_option maxRecDepth 100000 in
theorem mc_40 : Jvm.Cond.code (myY 40) (myB 40) (myM 40) (myR 40) ∈ tables_1 := List.mem_of_getElem? (i := 645) rfl
set_option maxRecDepth 100000 in
theorem mc_41 : Jvm.Cond.code (myY 41) (myB 41) (myM 41) (myR 41) ∈ tables_1 := List.mem_of_getElem? (i := 490) rfl
set_option maxRecDepth 100000 in
theorem mc_42 : Jvm.Cond.code (myY 42) (myB 42) (myM 42) (myR 42) ∈ tables_1 := List.mem_of_getElem? (i := 665) rfl
set_option maxRecDepth 100000 in
theorem mc_43 : Jvm.Cond.code (myY 43) (myB 43) (myM 43) (myR 43) ∈ tables_1 := List.mem_of_getElem? (i := 701) rfl
set_option maxRecDepth 100000 in
theorem mc_44 : Jvm.Cond.code (myY 44) (myB 44) (myM 44) (myR 44) ∈ tables_1 := List.mem_of_getElem? (i := 763) rfl
set_option maxRecDepth 100000 in
theorem mc_45 : Jvm.Cond.code (myY 45) (myB 45) (myM 45) (myR 45) ∈ tables_1 := List.mem_of_getElem? (i := 766) rfl
set_option maxRecDepth 100000 in
theorem mc_46 : Jvm.Cond.code (myY 46) (myB 46) (myM 46) (myR 46) ∈ tables_1 := List.mem_of_getElem? (i := 372) rfl
set_option maxRecDepth 100000 in
theorem mc_47 : Jvm.Cond.code (myY 47) (myB 47) (myM 47) (myR 47) ∈ tables_1 := List.mem_of_getElem? (i := 811) rfl
set_option maxRecDepth 100000 in
theorem mc_48 : Jvm.Cond.code (myY 48) (myB 48) (myM 48) (myR 48) ∈ tables_1 := List.mem_of_getElem? (i := 40) rfl
set_option maxRecDepth 100000 in
theorem mc_49 : Jvm.Cond.code (myY 49) (myB 49) (myM 49) (myR 49) ∈ tables_1 := List.mem_of_getElem? (i := 483) rfl
set_option maxRecDepth 100000 in
theorem mc_50 : Jvm.Cond.code (myY 50) (myB 50) (myM 50) (myR 50) ∈ tables_1 := List.mem_of_getElem? (i := 697) rfl
set_option maxRecDepth 100000 in
theorem mc_51 : Jvm.Cond.code (myY 51) (myB 51) (myM 51) (myR 51) ∈ tables_1 := List.mem_of_getElem? (i := 34) rfl
set_option maxRecDepth 100000 in
theorem mc_52 : Jvm.Cond.code (myY 52) (myB 52) (myM 52) (myR 52) ∈ tables_1 := List.mem_of_getElem? (i := 465) rfl
set_option maxRecDepth 100000 in
theorem mc_53 : Jvm.Cond.code (myY 53) (myB 53) (myM 53) (myR 53) ∈ tables_1 := List.mem_of_getElem? (i := 473) rfl
set_option maxRecDepth 100000 in
theorem mc_54 : Jvm.Cond.code (myY 54) (myB 54) (myM 54) (myR 54) ∈ tables_1 := List.mem_of_getElem? (i := 617) rfl
set_option maxRecDepth 100000 in
theorem mc_55 : Jvm.Cond.code (myY 55) (myB 55) (myM 55) (myR 55) ∈ tables_1 := List.mem_of_getElem? (i := 629) rfl
set_option maxRecDepth 100000 in
theorem mc_56 : Jvm.Cond.code (myY 56) (myB 56) (myM 56) (myR 56) ∈ tables_1 := List.mem_of_getElem? (i := 633) rfl
set_option maxRecDepth 100000 in
theorem mc_57 : Jvm.Cond.code (myY 57) (myB 57) (myM 57) (myR 57) ∈ tables_1 := List.mem_of_getElem? (i := 637) rfl
set_option maxRecDepth 100000 in
theorem mc_58 : Jvm.Cond.code (myY 58) (myB 58) (myM 58) (myR 58) ∈ tables_1 := List.mem_of_getElem? (i := 693) rfl
set_option maxRecDepth 100000 in
theorem mc_59 : Jvm.Cond.code (myY 59) (myB 59) (myM 59) (myR 59) ∈ tables_1 := List.mem_of_getElem? (i := 641) rfl
set_option maxRecDepth 100000 in
theorem mc_60 : Jvm.Cond.code (myY 60) (myB 60) (myM 60) (myR 60) ∈ tables_1 := List.mem_of_getElem? (i := 649) rfl
set_option maxRecDepth 100000 in
theorem mc_61 : Jvm.Cond.code (myY 61) (myB 61) (myM 61) (myR 61) ∈ tables_1 := List.mem_of_getElem? (i := 653) rfl
set_option maxRecDepth 100000 in
theorem mc_62 : Jvm.Cond.code (myY 62) (myB 62) (myM 62) (myR 62) ∈ tables_1 := List.mem_of_getElem? (i := 657) rfl
set_option maxRecDepth 100000 in
theorem mc_63 : Jvm.Cond.code (myY 63) (myB 63) (myM 63) (myR 63) ∈ tables_1 := List.mem_of_getElem? (i := 689) rfl
set_option maxRecDepth 100000 in
theorem mc_64 : Jvm.Cond.code (myY 64) (myB 64) (myM 64) (myR 64) ∈ tables_1 := List.mem_of_getElem? (i := 669) rfl
set_option maxRecDepth 100000 in
theorem mc_65 : Jvm.Cond.code (myY 65) (myB 65) (myM 65) (myR 65) ∈ tables_1 := List.mem_of_getElem? (i := 673) rfl
set_option maxRecDepth 100000 in
theorem mc_66 : Jvm.Cond.code (myY 66) (myB 66) (myM 66) (myR 66) ∈ tables_1 := List.mem_of_getElem? (i := 677) rfl
set_option maxRecDepth 100000 in
theorem mc_67 : Jvm.Cond.code (myY 67) (myB 67) (myM 67) (myR 67) ∈ tables_1 := List.mem_of_getElem? (i := 681) rfl
set_option maxRecDepth 100000 in
theorem mc_68 : Jvm.Cond.code (myY 68) (myB 68) (myM 68) (myR 68) ∈ tables_1 := List.mem_of_getElem? (i := 685) rfl
set_option maxRecDepth 100000 in
theorem mc_69 : Jvm.Cond.code (myY 69) (myB 69) (myM 69) (myR 69) ∈ tables_1 := List.mem_of_getElem? (i := 661) rfl
set_option maxRecDepth 100000 in
theorem mc_70 : Jvm.Cond.code (myY 70) (myB 70) (myM 70) (myR 70) ∈ tables_1 := List.mem_of_getElem? (i := 621) rfl
set_option maxRecDepth 100000 in
theorem mc_71 : Jvm.Cond.code (myY 71) (myB 71) (myM 71) (myR 71) ∈ tables_1 := List.mem_of_getElem? (i := 625) rfl
set_option maxRecDepth 100000 in
theorem mc_72 : Jvm.Cond.code (myY 72) (myB 72) (myM 72) (myR 72) ∈ tables_1 := List.mem_of_getElem? (i := 494) rfl
set_option maxRecDepth 100000 in
theorem mc_73 : Jvm.Cond.code (myY 73) (myB 73) (myM 73) (myR 73) ∈ tables_1 := List.mem_of_getElem? (i := 557) rfl
set_option maxRecDepth 100000 in
theorem mc_74 : Jvm.Cond.code (myY 74) (myB 74) (myM 74) (myR 74) ∈ tables_1 := List.mem_of_getElem? (i := 501) rfl
set_option maxRecDepth 100000 in
theorem mc_75 : Jvm.Cond.code (myY 75) (myB 75) (myM 75) (myR 75) ∈ tables_1 := List.mem_of_getElem? (i := 497) rfl
set_option maxRecDepth 100000 in
theorem mc_76 : Jvm.Cond.code (myY 76) (myB 76) (myM 76) (myR 76) ∈ tables_1 := List.mem_of_getElem? (i := 497) rfl
set_option maxRecDepth 100000 in
theorem mc_77 : Jvm.Cond.code (myY 77) (myB 77) (myM 77) (myR 77) ∈ tables_1 := List.mem_of_getElem? (i := 553) rfl
set_option maxRecDepth 100000 in
theorem mc_78 : Jvm.Cond.code (myY 78) (myB 78) (myM 78) (myR 78) ∈ tables_1 := List.mem_of_getElem? (i := 293) rfl
set_option maxRecDepth 100000 in
theorem mc_79 : Jvm.Cond.code (myY 79) (myB 79) (myM 79) (myR 79) ∈ tables_1 := List.mem_of_getElem? (i := 949) rfl
set_option maxRecDepth 100000 in
theorem mc_80 : Jvm.Cond.code (myY 80) (myB 80) (myM 80) (myR 80) ∈ tables_1 := List.mem_of_getElem? (i := 954) rfl
set_option maxRecDepth 100000 in
theorem mc_81 : Jvm.Cond.code (myY 81) (myB 81) (myM 81) (myR 81) ∈ tables_1 := List.mem_of_getElem? (i := 1190) rfl
set_option maxRecDepth 100000 in
theorem mc_82 : Jvm.Cond.code (myY 82) (myB 82) (myM 82) (myR 82) ∈ tables_1 := List.mem_of_getElem? (i := 965) rfl
set_option maxRecDepth 100000 in
theorem mc_83 : Jvm.Cond.code (myY 83) (myB 83) (myM 83) (myR 83) ∈ tables_1 := List.mem_of_getElem? (i := 958) rfl
set_option maxRecDepth 100000 in
theorem mc_84 : Jvm.Cond.code (myY 84) (myB 84) (myM 84) (myR 84) ∈ tables_1 := List.mem_of_getElem? (i := 1088) rfl
set_option maxRecDepth 100000 in
theorem mc_85 : Jvm.Cond.code (myY 85) (myB 85) (myM 85) (myR 85) ∈ tables_1 := List.mem_of_getElem? (i := 969) rfl
set_option maxRecDepth 100000 in
theorem mc_86 : Jvm.Cond.code (myY 86) (myB 86) (myM 86) (myR 86) ∈ tables_1 := List.mem_of_getElem? (i := 1204) rfl
set_option maxRecDepth 100000 in
theorem mc_87 : Jvm.Cond.code (myY 87) (myB 87) (myM 87) (myR 87) ∈ tables_1 := List.mem_of_getElem? (i := 1096) rfl
set_option maxRecDepth 100000 in
theorem mc_88 : Jvm.Cond.code (myY 88) (myB 88) (myM 88) (myR 88) ∈ tables_1 := List.mem_of_getElem? (i := 1102) rfl
set_option maxRecDepth 100000 in
theorem mc_89 : Jvm.Cond.code (myY 89) (myB 89) (myM 89) (myR 89) ∈ tables_1 := List.mem_of_getElem? (i := 1106) rfl
set_option maxRecDepth 100000 in
theorem mc_90 : Jvm.Cond.code (myY 90) (myB 90) (myM 90) (myR 90) ∈ tables_1 := List.mem_of_getElem? (i := 1110) rfl
set_option maxRecDepth 100000 in
theorem mc_91 : Jvm.Cond.code (myY 91) (myB 91) (myM 91) (myR 91) ∈ tables_1 := List.mem_of_getElem? (i := 1114) rfl
set_option maxRecDepth 100000 in
theorem mc_92 : Jvm.Cond.code (myY 92) (myB 92) (myM 92) (myR 92) ∈ tables_1 := List.mem_of_getElem? (i := 1122) rfl
set_option maxRecDepth 100000 in
theorem mc_93 : Jvm.Cond.code (myY 93) (myB 93) (myM 93) (myR 93) ∈ tables_1 := List.mem_of_getElem? (i := 146) rfl
set_option maxRecDepth 100000 in
theorem mc_94 : Jvm.Cond.code (myY 94) (myB 94) (myM 94) (myR 94) ∈ tables_1 := List.mem_of_getElem? (i := 151) rfl
set_option maxRecDepth 100000 in
theorem mc_95 : Jvm.Cond.code (myY 95) (myB 95) (myM 95) (myR 95) ∈ tables_1 := List.mem_of_getElem? (i := 155) rfl
set_option maxRecDepth 100000 in
theorem mc_96 : Jvm.Cond.code (myY 96) (myB 96) (myM 96) (myR 96) ∈ tables_1 := List.mem_of_getElem? (i := 159) rfl
set_option maxRecDepth 100000 in
theorem mc_97 : Jvm.Cond.code (myY 97) (myB 97) (myM 97) (myR 97) ∈ tables_1 := List.mem_of_getElem? (i := 163) rfl
set_option maxRecDepth 100000 in
theorem mc_98 : Jvm.Cond.code (myY 98) (myB 98) (myM 98) (myR 98) ∈ tables_1 := List.mem_of_getElem? (i := 167) rfl
set_option maxRecDepth 100000 in
theorem mc_99 : Jvm.Cond.code (myY 99) (myB 99) (myM 99) (myR 99) ∈ tables_1 := List.mem_of_getElem? (i := 175) rfl
set_option maxRecDepth 100000 in
theorem mc_100 : Jvm.Cond.code (myY 100) (myB 100) (myM 100) (myR 100) ∈ tables_1 := List.mem_of_getElem? (i := 179) rfl
set_option maxRecDepth 100000 in
theorem mc_101 : Jvm.Cond.code (myY 101) (myB 101) (myM 101) (myR 101) ∈ tables_1 := List.mem_of_getElem? (i := 171) rfl
set_option maxRecDepth 100000 in
theorem mc_102 : Jvm.Cond.code (myY 102) (myB 102) (myM 102) (myR 102) ∈ tables_1 := List.mem_of_getElem? (i := 721) rfl
set_option maxRecDepth 100000 in
theorem mc_103 : Jvm.Cond.code (myY 103) (myB 103) (myM 103) (myR 103) ∈ tables_1 := List.mem_of_getElem? (i := 734) rfl
set_option maxRecDepth 100000 in
theorem mc_104 : Jvm.Cond.code (myY 104) (myB 104) (myM 104) (myR 104) ∈ tables_1 := List.mem_of_getElem? (i := 738) rfl
set_option maxRecDepth 100000 in
theorem mc_105 : Jvm.Cond.code (myY 105) (myB 105) (myM 105) (myR 105) ∈ tables_1 := List.mem_of_getElem? (i := 759) rfl
set_option maxRecDepth 100000 in
theorem mc_106 : Jvm.Cond.code (myY 106) (myB 106) (myM 106) (myR 106) ∈ tables_1 := List.mem_of_getElem? (i := 781) rfl
set_option maxRecDepth 100000 in
theorem mc_107 : Jvm.Cond.code (myY 107) (myB 107) (myM 107) (myR 107) ∈ tables_1 := List.mem_of_getElem? (i := 777) rfl
set_option maxRecDepth 100000 in
theorem mc_108 : Jvm.Cond.code (myY 108) (myB 108) (myM 108) (myR 108) ∈ tables_1 := List.mem_of_getElem? (i := 786) rfl
set_option maxRecDepth 100000 in
theorem mc_109 : Jvm.Cond.code (myY 109) (myB 109) (myM 109) (myR 109) ∈ tables_1 := List.mem_of_getElem? (i := 887) rfl
set_option maxRecDepth 100000 in
theorem mc_110 : Jvm.Cond.code (myY 110) (myB 110) (myM 110) (myR 110) ∈ tables_1 := List.mem_of_getElem? (i := 1059) rfl
set_option maxRecDepth 100000 in
theorem mc_111 : Jvm.Cond.code (myY 111) (myB 111) (myM 111) (myR 111) ∈ tables_1 := List.mem_of_getElem? (i := 1064) rfl
set_option maxRecDepth 100000 in
theorem mc_112 : Jvm.Cond.code (myY 112) (myB 112) (myM 112) (myR 112) ∈ tables_1 := List.mem_of_getElem? (i := 1071) rfl
set_option maxRecDepth 100000 in
theorem mc_113 : Jvm.Cond.code (myY 113) (myB 113) (myM 113) (myR 113) ∈ tables_1 := List.mem_of_getElem? (i := 393) rfl
set_option maxRecDepth 100000 in
theorem mc_114 : Jvm.Cond.code (myY 114) (myB 114) (myM 114) (myR 114) ∈ tables_1 := List.mem_of_getElem? (i := 839) rfl
set_option maxRecDepth 100000 in
theorem mc_115 : Jvm.Cond.code (myY 115) (myB 115) (myM 115) (myR 115) ∈ tables_1 := List.mem_of_getElem? (i := 1213) rfl
set_option maxRecDepth 100000 in
theorem mc_116 : Jvm.Cond.code (myY 116) (myB 116) (myM 116) (myR 116) ∈ tables_1 := List.mem_of_getElem? (i := 847) rfl
set_option maxRecDepth 100000 in
theorem mc_117 : Jvm.Cond.code (myY 117) (myB 117) (myM 117) (myR 117) ∈ tables_1 := List.mem_of_getElem? (i := 1225) rfl
set_option maxRecDepth 100000 in
theorem mc_118 : Jvm.Cond.code (myY 118) (myB 118) (myM 118) (myR 118) ∈ tables_1 := List.mem_of_getElem? (i := 1229) rfl
set_option maxRecDepth 100000 in
theorem mc_119 : Jvm.Cond.code (myY 119) (myB 119) (myM 119) (myR 119) ∈ tables_1 := List.mem_of_getElem? (i := 26) rfl
set_option maxRecDepth 100000 in
theorem mc_120 : Jvm.Cond.code (myY 120) (myB 120) (myM 120) (myR 120) ∈ tables_1 := List.mem_of_getElem? (i := 461) rfl
set_option maxRecDepth 100000 in
theorem mc_121 : Jvm.Cond.code (myY 121) (myB 121) (myM 121) (myR 121) ∈ tables_1 := List.mem_of_getElem? (i := 469) rfl
set_option maxRecDepth 100000 in
theorem mc_122 : Jvm.Cond.code (myY 122) (myB 122) (myM 122) (myR 122) ∈ tables_1 := List.mem_of_getElem? (i := 726) rfl
set_option maxRecDepth 100000 in
theorem mc_123 : Jvm.Cond.code (myY 123) (myB 123) (myM 123) (myR 123) ∈ tables_1 := List.mem_of_getElem? (i := 730) rfl
set_option maxRecDepth 100000 in
theorem mc_124 : Jvm.Cond.code (myY 124) (myB 124) (myM 124) (myR 124) ∈ tables_1 := List.mem_of_getElem? (i := 742) rfl
set_option maxRecDepth 100000 in
theorem mc_125 : Jvm.Cond.code (myY 125) (myB 125) (myM 125) (myR 125) ∈ tables_1 := List.mem_of_getElem? (i := 773) rfl
set_option maxRecDepth 100000 in
theorem mc_126 : Jvm.Cond.code (myY 126) (myB 126) (myM 126) (myR 126) ∈ tables_1 := List.mem_of_getElem? (i := 790) rfl
set_option maxRecDepth 100000 in
theorem mc_127 : Jvm.Cond.code (myY 127) (myB 127) (myM 127) (myR 127) ∈ tables_1 := List.mem_of_getElem? (i := 807) rfl
set_option maxRecDepth 100000 in
theorem mc_128 : Jvm.Cond.code (myY 128) (myB 128) (myM 128) (myR 128) ∈ tables_1 := List.mem_of_getElem? (i := 823) rfl
set_option maxRecDepth 100000 in
theorem mc_129 : Jvm.Cond.code (myY 129) (myB 129) (myM 129) (myR 129) ∈ tables_1 := List.mem_of_getElem? (i := 827) rfl
set_option maxRecDepth 100000 in
theorem mc_130 : Jvm.Cond.code (myY 130) (myB 130) (myM 130) (myR 130) ∈ tables_1 := List.mem_of_getElem? (i := 831) rfl
set_option maxRecDepth 100000 in
theorem mc_131 : Jvm.Cond.code (myY 131) (myB 131) (myM 131) (myR 131) ∈ tables_1 := List.mem_of_getElem? (i := 835) rfl
set_option maxRecDepth 100000 in
theorem mc_132 : Jvm.Cond.code (myY 132) (myB 132) (myM 132) (myR 132) ∈ tables_1 := List.mem_of_getElem? (i := 861) rfl
set_option maxRecDepth 100000 in
theorem mc_133 : Jvm.Cond.code (myY 133) (myB 133) (myM 133) (myR 133) ∈ tables_1 := List.mem_of_getElem? (i := 865) rfl
set_option maxRecDepth 100000 in
theorem mc_134 : Jvm.Cond.code (myY 134) (myB 134) (myM 134) (myR 134) ∈ tables_1 := List.mem_of_getElem? (i := 873) rfl
set_option maxRecDepth 100000 in
theorem mc_135 : Jvm.Cond.code (myY 135) (myB 135) (myM 135) (myR 135) ∈ tables_1 := List.mem_of_getElem? (i := 934) rfl
set_option maxRecDepth 100000 in
theorem mc_136 : Jvm.Cond.code (myY 136) (myB 136) (myM 136) (myR 136) ∈ tables_1 := List.mem_of_getElem? (i := 942) rfl
set_option maxRecDepth 100000 in
theorem mc_137 : Jvm.Cond.code (myY 137) (myB 137) (myM 137) (myR 137) ∈ tables_1 := List.mem_of_getElem? (i := 974) rfl
set_option maxRecDepth 100000 in
theorem mc_138 : Jvm.Cond.code (myY 138) (myB 138) (myM 138) (myR 138) ∈ tables_1 := List.mem_of_getElem? (i := 987) rfl
set_option maxRecDepth 100000 in
theorem mc_139 : Jvm.Cond.code (myY 139) (myB 139) (myM 139) (myR 139) ∈ tables_1 := List.mem_of_getElem? (i := 995) rfl
set_option maxRecDepth 100000 in
theorem mc_140 : Jvm.Cond.code (myY 140) (myB 140) (myM 140) (myR 140) ∈ tables_1 := List.mem_of_getElem? (i := 1010) rfl
set_option maxRecDepth 100000 in
theorem mc_141 : Jvm.Cond.code (myY 141) (myB 141) (myM 141) (myR 141) ∈ tables_1 := List.mem_of_getElem? (i := 1030) rfl
set_option maxRecDepth 100000 in
theorem mc_142 : Jvm.Cond.code (myY 142) (myB 142) (myM 142) (myR 142) ∈ tables_1 := List.mem_of_getElem? (i := 1035) rfl
set_option maxRecDepth 100000 in
theorem mc_143 : Jvm.Cond.code (myY 143) (myB 143) (myM 143) (myR 143) ∈ tables_1 := List.mem_of_getElem? (i := 1047) rfl
set_option maxRecDepth 100000 in
theorem mc_144 : Jvm.Cond.code (myY 144) (myB 144) (myM 144) (myR 144) ∈ tables_1 := List.mem_of_getElem? (i := 1055) rfl
set_option maxRecDepth 100000 in
theorem mc_145 : Jvm.Cond.code (myY 145) (myB 145) (myM 145) (myR 145) ∈ tables_1 := List.mem_of_getElem? (i := 1075) rfl
set_option maxRecDepth 100000 in
theorem mc_146 : Jvm.Cond.code (myY 146) (myB 146) (myM 146) (myR 146) ∈ tables_1 := List.mem_of_getElem? (i := 1080) rfl
set_option maxRecDepth 100000 in
theorem mc_147 : Jvm.Cond.code (myY 147) (myB 147) (myM 147) (myR 147) ∈ tables_1 := List.mem_of_getElem? (i := 1092) rfl
set_option maxRecDepth 100000 in
theorem mc_148 : Jvm.Cond.code (myY 148) (myB 148) (myM 148) (myR 148) ∈ tables_1 := List.mem_of_getElem? (i := 1118) rfl
set_option maxRecDepth 100000 in
theorem mc_149 : Jvm.Cond.code (myY 149) (myB 149) (myM 149) (myR 149) ∈ tables_1 := List.mem_of_getElem? (i := 1126) rfl
set_option maxRecDepth 100000 in
theorem mc_150 : Jvm.Cond.code (myY 150) (myB 150) (myM 150) (myR 150) ∈ tables_1 := List.mem_of_getElem? (i := 1138) rfl
set_option maxRecDepth 100000 in
theorem mc_151 : Jvm.Cond.code (myY 151) (myB 151) (myM 151) (myR 151) ∈ tables_1 := List.mem_of_getElem? (i := 1156) rfl
set_option maxRecDepth 100000 in
theorem mc_152 : Jvm.Cond.code (myY 152) (myB 152) (myM 152) (myR 152) ∈ tables_1 := List.mem_of_getElem? (i := 1174) rfl
set_option maxRecDepth 100000 in
theorem mc_153 : Jvm.Cond.code (myY 153) (myB 153) (myM 153) (myR 153) ∈ tables_1 := List.mem_of_getElem? (i := 1182) rfl
set_option maxRecDepth 100000 in
theorem mc_154 : Jvm.Cond.code (myY 154) (myB 154) (myM 154) (myR 154) ∈ tables_1 := List.mem_of_getElem? (i := 1200) rfl
set_option maxRecDepth 100000 in
theorem mc_155 : Jvm.Cond.code (myY 155) (myB 155) (myM 155) (myR 155) ∈ tables_1 := List.mem_of_getElem? (i := 1209) rfl
set_option maxRecDepth 100000 in
theorem mc_156 : Jvm.Cond.code (myY 156) (myB 156) (myM 156) (myR 156) ∈ tables_1 := List.mem_of_getElem? (i := 1219) rfl
set_option maxRecDepth 100000 in
theorem mc_157 : Jvm.Cond.code (myY 157) (myB 157) (myM 157) (myR 157) ∈ tables_1 := List.mem_of_getElem? (i := 1233) rfl
set_option maxRecDepth 100000 in
theorem mc_158 : Jvm.Cond.code (myY 158) (myB 158) (myM 158) (myR 158) ∈ tables_1 := List.mem_of_getElem? (i := 1238) rfl
set_option maxRecDepth 100000 in
theorem mc_159 : Jvm.Cond.code (myY 159) (myB 159) (myM 159) (myR 159) ∈ tables_1 := List.mem_of_getElem? (i := 1242) rfl
set_option maxRecDepth 100000 in
theorem mc_160 : Jvm.Cond.code (myY 160) (myB 160) (myM 160) (myR 160) ∈ tables_1 := List.mem_of_getElem? (i := 1246) rfl
set_option maxRecDepth 100000 in
theorem mc_161 : Jvm.Cond.code (myY 161) (myB 161) (myM 161) (myR 161) ∈ tables_1 := List.mem_of_getElem? (i := 708) rfl
set_option maxRecDepth 100000 in
theorem mc_162 : Jvm.Cond.code (myY 162) (myB 162) (myM 162) (myR 162) ∈ tables_1 := List.mem_of_getElem? (i := 819) rfl
set_option maxRecDepth 100000 in
theorem mc_163 : Jvm.Cond.code (myY 163) (myB 163) (myM 163) (myR 163) ∈ tables_1 := List.mem_of_getElem? (i := 815) rfl
set_option maxRecDepth 100000 in
theorem mc_164 : Jvm.Cond.code (myY 164) (myB 164) (myM 164) (myR 164) ∈ tables_1 := List.mem_of_getElem? (i := 855) rfl
set_option maxRecDepth 100000 in
theorem mc_165 : Jvm.Cond.code (myY 165) (myB 165) (myM 165) (myR 165) ∈ tables_1 := List.mem_of_getElem? (i := 851) rfl
set_option maxRecDepth 100000 in
theorem mc_166 : Jvm.Cond.code (myY 166) (myB 166) (myM 166) (myR 166) ∈ tables_1 := List.mem_of_getElem? (i := 843) rfl
set_option maxRecDepth 100000 in
theorem mc_167 : Jvm.Cond.code (myY 167) (myB 167) (myM 167) (myR 167) ∈ tables_1 := List.mem_of_getElem? (i := 868) rfl
set_option maxRecDepth 100000 in
theorem mc_168 : Jvm.Cond.code (myY 168) (myB 168) (myM 168) (myR 168) ∈ tables_1 := List.mem_of_getElem? (i := 1084) rfl
set_option maxRecDepth 100000 in
theorem mc_169 : Jvm.Cond.code (myY 169) (myB 169) (myM 169) (myR 169) ∈ tables_1 := List.mem_of_getElem? (i := 1130) rfl
set_option maxRecDepth 100000 in
theorem mc_170 : Jvm.Cond.code (myY 170) (myB 170) (myM 170) (myR 170) ∈ tables_1 := List.mem_of_getElem? (i := 1134) rfl
set_option maxRecDepth 100000 in
theorem mc_171 : Jvm.Cond.code (myY 171) (myB 171) (myM 171) (myR 171) ∈ tables_1 := List.mem_of_getElem? (i := 1142) rfl
set_option maxRecDepth 100000 in
theorem mc_172 : Jvm.Cond.code (myY 172) (myB 172) (myM 172) (myR 172) ∈ tables_1 := List.mem_of_getElem? (i := 1146) rfl
set_option maxRecDepth 100000 in
theorem mc_173 : Jvm.Cond.code (myY 173) (myB 173) (myM 173) (myR 173) ∈ tables_1 := List.mem_of_getElem? (i := 1150) rfl
set_option maxRecDepth 100000 in
theorem mc_174 : Jvm.Cond.code (myY 174) (myB 174) (myM 174) (myR 174) ∈ tables_1 := List.mem_of_getElem? (i := 1186) rfl
set_option maxRecDepth 100000 in
theorem mc_175 : Jvm.Cond.code (myY 175) (myB 175) (myM 175) (myR 175) ∈ tables_1 := List.mem_of_getElem? (i := 1193) rfl
set_option maxRecDepth 100000 in
theorem mc_176 : Jvm.Cond.code (myY 176) (myB 176) (myM 176) (myR 176) ∈ tables_1 := List.mem_of_getElem? (i := 1196) rfl
set_option maxRecDepth 100000 in
theorem mc_177 : Jvm.Cond.code (myY 177) (myB 177) (myM 177) (myR 177) ∈ tables_1 := List.mem_of_getElem? (i := 486) rfl
set_option maxRecDepth 100000 in
theorem mc_178 : Jvm.Cond.code (myY 178) (myB 178) (myM 178) (myR 178) ∈ tables_1 := List.mem_of_getElem? (i := 1403) rfl
set_option maxRecDepth 100000 in
theorem mc_179 : Jvm.Cond.code (myY 179) (myB 179) (myM 179) (myR 179) ∈ tables_1 := List.mem_of_getElem? (i := 1251) rfl
set_option maxRecDepth 100000 in
theorem mc_180 : Jvm.Cond.code (myY 180) (myB 180) (myM 180) (myR 180) ∈ tables_1 := List.mem_of_getElem? (i := 1256) rfl
set_option maxRecDepth 100000 in
theorem mc_181 : Jvm.Cond.code (myY 181) (myB 181) (myM 181) (myR 181) ∈ tables_1 := List.mem_of_getElem? (i := 1396) rfl
set_option maxRecDepth 100000 in
theorem mc_182 : Jvm.Cond.code (myY 182) (myB 182) (myM 182) (myR 182) ∈ tables_1 := List.mem_of_getElem? (i := 1411) rfl
set_option maxRecDepth 100000 in
theorem mc_183 : Jvm.Cond.code (myY 183) (myB 183) (myM 183) (myR 183) ∈ tables_1 := List.mem_of_getElem? (i := 1414) rfl
set_option maxRecDepth 100000 in
theorem mc_184 : Jvm.Cond.code (myY 184) (myB 184) (myM 184) (myR 184) ∈ tables_1 := List.mem_of_getElem? (i := 1424) rfl
set_option maxRecDepth 100000 in
theorem mc_185 : Jvm.Cond.code (myY 185) (myB 185) (myM 185) (myR 185) ∈ tables_1 := List.mem_of_getElem? (i := 1418) rfl
set_option maxRecDepth 100000 in
theorem mc_186 : Jvm.Cond.code (myY 186) (myB 186) (myM 186) (myR 186) ∈ tables_1 := List.mem_of_getElem? (i := 1407) rfl
set_option maxRecDepth 100000 in
theorem mc_187 : Jvm.Cond.code (myY 187) (myB 187) (myM 187) (myR 187) ∈ tables_1 := List.mem_of_getElem? (i := 1437) rfl
set_option maxRecDepth 100000 in
theorem mc_188 : Jvm.Cond.code (myY 188) (myB 188) (myM 188) (myR 188) ∈ tables_1 := List.mem_of_getElem? (i := 1433) rfl
set_option maxRecDepth 100000 in
theorem mc_189 : Jvm.Cond.code (myY 189) (myB 189) (myM 189) (myR 189) ∈ tables_1 := List.mem_of_getElem? (i := 1429) rfl
set_option maxRecDepth 100000 in
theorem mc_190 : Jvm.Cond.code (myY 190) (myB 190) (myM 190) (myR 190) ∈ tables_1 := List.mem_of_getElem? (i := 1441) rfl
set_option maxRecDepth 100000 in
theorem mc_191 : Jvm.Cond.code (myY 191) (myB 191) (myM 191) (myR 191) ∈ tables_1 := List.mem_of_getElem? (i := 1267) rfl
set_option maxRecDepth 100000 in
theorem mc_192 : Jvm.Cond.code (myY 192) (myB 192) (myM 192) (myR 192) ∈ tables_1 := List.mem_of_getElem? (i := 1481) rfl
set_option maxRecDepth 100000 in
theorem mc_193 : Jvm.Cond.code (myY 193) (myB 193) (myM 193) (myR 193) ∈ tables_1 := List.mem_of_getElem? (i := 1477) rfl
set_option maxRecDepth 100000 in
theorem mc_194 : Jvm.Cond.code (myY 194) (myB 194) (myM 194) (myR 194) ∈ tables_1 := List.mem_of_getElem? (i := 1485) rfl
set_option maxRecDepth 100000 in
theorem mc_195 : Jvm.Cond.code (myY 195) (myB 195) (myM 195) (myR 195) ∈ tables_1 := List.mem_of_getElem? (i := 1473) rfl
set_option maxRecDepth 100000 in
theorem mc_196 : Jvm.Cond.code (myY 196) (myB 196) (myM 196) (myR 196) ∈ tables_1 := List.mem_of_getElem? (i := 1489) rfl
set_option maxRecDepth 100000 in
theorem mc_197 : Jvm.Cond.code (myY 197) (myB 197) (myM 197) (myR 197) ∈ tables_1 := List.mem_of_getElem? (i := 1469) rfl
set_option maxRecDepth 100000 in
theorem mc_198 : Jvm.Cond.code (myY 198) (myB 198) (myM 198) (myR 198) ∈ tables_1 := List.mem_of_getElem? (i := 1465) rfl
set_option maxRecDepth 100000 in
theorem mc_199 : Jvm.Cond.code (myY 199) (myB 199) (myM 199) (myR 199) ∈ tables_1 := List.mem_of_getElem? (i := 1501) rfl
set_option maxRecDepth 100000 in
theorem mc_200 : Jvm.Cond.code (myY 200) (myB 200) (myM 200) (myR 200) ∈ tables_1 := List.mem_of_getElem? (i := 1497) rfl
set_option maxRecDepth 100000 in
theorem mc_201 : Jvm.Cond.code (myY 201) (myB 201) (myM 201) (myR 201) ∈ tables_1 := List.mem_of_getElem? (i := 1493) rfl
set_option maxRecDepth 100000 in
theorem mc_202 : Jvm.Cond.code (myY 202) (myB 202) (myM 202) (myR 202) ∈ tables_1 := List.mem_of_getElem? (i := 1457) rfl
set_option maxRecDepth 100000 in
theorem mc_203 : Jvm.Cond.code (myY 203) (myB 203) (myM 203) (myR 203) ∈ tables_1 := List.mem_of_getElem? (i := 1453) rfl
set_option maxRecDepth 100000 in
theorem mc_204 : Jvm.Cond.code (myY 204) (myB 204) (myM 204) (myR 204) ∈ tables_1 := List.mem_of_getElem? (i := 1461) rfl
set_option maxRecDepth 100000 in
theorem mc_205 : Jvm.Cond.code (myY 205) (myB 205) (myM 205) (myR 205) ∈ tables_1 := List.mem_of_getElem? (i := 1449) rfl
set_option maxRecDepth 100000 in
theorem mc_206 : Jvm.Cond.code (myY 206) (myB 206) (myM 206) (myR 206) ∈ tables_1 := List.mem_of_getElem? (i := 1445) rfl
set_option maxRecDepth 100000 in
theorem mc_207 : Jvm.Cond.code (myY 207) (myB 207) (myM 207) (myR 207) ∈ tables_1 := List.mem_of_getElem? (i := 1400) rfl
set_option maxRecDepth 100000 in
theorem mc_208 : Jvm.Cond.code (myY 208) (myB 208) (myM 208) (myR 208) ∈ tables_1 := List.mem_of_getElem? (i := 1512) rfl
set_option maxRecDepth 100000 in
theorem mc_209 : Jvm.Cond.code (myY 209) (myB 209) (myM 209) (myR 209) ∈ tables_1 := List.mem_of_getElem? (i := 1260) rfl
set_option maxRecDepth 100000 in
theorem mc_210 : Jvm.Cond.code (myY 210) (myB 210) (myM 210) (myR 210) ∈ tables_1 := List.mem_of_getElem? (i := 1264) rfl
set_option maxRecDepth 100000 in
theorem mc_211 : Jvm.Cond.code (myY 211) (myB 211) (myM 211) (myR 211) ∈ tables_1 := List.mem_of_getElem? (i := 1508) rfl
set_option maxRecDepth 100000 in
theorem mc_212 : Jvm.Cond.code (myY 212) (myB 212) (myM 212) (myR 212) ∈ tables_1 := List.mem_of_getElem? (i := 1520) rfl
set_option maxRecDepth 100000 in
theorem mc_213 : Jvm.Cond.code (myY 213) (myB 213) (myM 213) (myR 213) ∈ tables_1 := List.mem_of_getElem? (i := 1524) rfl
set_option maxRecDepth 100000 in
theorem mc_214 : Jvm.Cond.code (myY 214) (myB 214) (myM 214) (myR 214) ∈ tables_1 := List.mem_of_getElem? (i := 1505) rfl
set_option maxRecDepth 100000 in
theorem mc_215 : Jvm.Cond.code (myY 215) (myB 215) (myM 215) (myR 215) ∈ tables_1 := List.mem_of_getElem? (i := 1544) rfl
set_option maxRecDepth 100000 in
theorem mc_216 : Jvm.Cond.code (myY 216) (myB 216) (myM 216) (myR 216) ∈ tables_1 := List.mem_of_getElem? (i := 1566) rfl
set_option maxRecDepth 100000 in
theorem mc_217 : Jvm.Cond.code (myY 217) (myB 217) (myM 217) (myR 217) ∈ tables_1 := List.mem_of_getElem? (i := 1551) rfl
set_option maxRecDepth 100000 in
theorem mc_218 : Jvm.Cond.code (myY 218) (myB 218) (myM 218) (myR 218) ∈ tables_1 := List.mem_of_getElem? (i := 1548) rfl
set_option maxRecDepth 100000 in
theorem mc_219 : Jvm.Cond.code (myY 219) (myB 219) (myM 219) (myR 219) ∈ tables_1 := List.mem_of_getElem? (i := 1536) rfl
set_option maxRecDepth 100000 in
theorem mc_220 : Jvm.Cond.code (myY 220) (myB 220) (myM 220) (myR 220) ∈ tables_1 := List.mem_of_getElem? (i := 1540) rfl
set_option maxRecDepth 100000 in
theorem mc_221 : Jvm.Cond.code (myY 221) (myB 221) (myM 221) (myR 221) ∈ tables_1 := List.mem_of_getElem? (i := 1578) rfl
set_option maxRecDepth 100000 in
theorem mc_222 : Jvm.Cond.code (myY 222) (myB 222) (myM 222) (myR 222) ∈ tables_1 := List.mem_of_getElem? (i := 1562) rfl
set_option maxRecDepth 100000 in
theorem mc_223 : Jvm.Cond.code (myY 223) (myB 223) (myM 223) (myR 223) ∈ tables_1 := List.mem_of_getElem? (i := 1570) rfl
set_option maxRecDepth 100000 in
theorem mc_224 : Jvm.Cond.code (myY 224) (myB 224) (myM 224) (myR 224) ∈ tables_1 := List.mem_of_getElem? (i := 1516) rfl
set_option maxRecDepth 100000 in
theorem mc_225 : Jvm.Cond.code (myY 225) (myB 225) (myM 225) (myR 225) ∈ tables_1 := List.mem_of_getElem? (i := 1532) rfl
set_option maxRecDepth 100000 in
theorem mc_226 : Jvm.Cond.code (myY 226) (myB 226) (myM 226) (myR 226) ∈ tables_1 := List.mem_of_getElem? (i := 1528) rfl
set_option maxRecDepth 100000 in
theorem mc_227 : Jvm.Cond.code (myY 227) (myB 227) (myM 227) (myR 227) ∈ tables_1 := List.mem_of_getElem? (i := 1557) rfl
set_option maxRecDepth 100000 in
theorem mc_228 : Jvm.Cond.code (myY 228) (myB 228) (myM 228) (myR 228) ∈ tables_1 := List.mem_of_getElem? (i := 1574) rfl
set_option maxRecDepth 100000 in
theorem mc_229 : Jvm.Cond.code (myY 229) (myB 229) (myM 229) (myR 229) ∈ tables_1 := List.mem_of_getElem? (i := 1586) rfl
set_option maxRecDepth 100000 in
theorem mc_230 : Jvm.Cond.code (myY 230) (myB 230) (myM 230) (myR 230) ∈ tables_1 := List.mem_of_getElem? (i := 1634) rfl
set_option maxRecDepth 100000 in
theorem mc_231 : Jvm.Cond.code (myY 231) (myB 231) (myM 231) (myR 231) ∈ tables_1 := List.mem_of_getElem? (i := 1594) rfl
set_option maxRecDepth 100000 in
theorem mc_232 : Jvm.Cond.code (myY 232) (myB 232) (myM 232) (myR 232) ∈ tables_1 := List.mem_of_getElem? (i := 1590) rfl
set_option maxRecDepth 100000 in
theorem mc_233 : Jvm.Cond.code (myY 233) (myB 233) (myM 233) (myR 233) ∈ tables_1 := List.mem_of_getElem? (i := 1582) rfl
set_option maxRecDepth 100000 in
theorem mc_234 : Jvm.Cond.code (myY 234) (myB 234) (myM 234) (myR 234) ∈ tables_1 := List.mem_of_getElem? (i := 1598) rfl
set_option maxRecDepth 100000 in
theorem mc_235 : Jvm.Cond.code (myY 235) (myB 235) (myM 235) (myR 235) ∈ tables_1 := List.mem_of_getElem? (i := 1603) rfl
set_option maxRecDepth 100000 in
theorem mc_236 : Jvm.Cond.code (myY 236) (myB 236) (myM 236) (myR 236) ∈ tables_1 := List.mem_of_getElem? (i := 1608) rfl
set_option maxRecDepth 100000 in
theorem mc_237 : Jvm.Cond.code (myY 237) (myB 237) (myM 237) (myR 237) ∈ tables_1 := List.mem_of_getElem? (i := 1625) rfl
set_option maxRecDepth 100000 in
theorem mc_238 : Jvm.Cond.code (myY 238) (myB 238) (myM 238) (myR 238) ∈ tables_1 := List.mem_of_getElem? (i := 1630) rfl
set_option maxRecDepth 100000 in
theorem mc_239 : Jvm.Cond.code (myY 239) (myB 239) (myM 239) (myR 239) ∈ tables_1 := List.mem_of_getElem? (i := 1621) rfl
set_option maxRecDepth 100000 in
theorem mc_240 : Jvm.Cond.code (myY 240) (myB 240) (myM 240) (myR 240) ∈ tables_1 := List.mem_of_getElem? (i := 1617) rfl
set_option maxRecDepth 100000 in
theorem mc_241 : Jvm.Cond.code (myY 241) (myB 241) (myM 241) (myR 241) ∈ tables_1 := List.mem_of_getElem? (i := 1613) rfl
set_option maxRecDepth 100000 in
theorem mc_242 : Jvm.Cond.code (myY 242) (myB 242) (myM 242) (myR 242) ∈ tables_1 := List.mem_of_getElem? (i := 1638) rfl
set_option maxRecDepth 100000 in
theorem mc_243 : Jvm.Cond.code (myY 243) (myB 243) (myM 243) (myR 243) ∈ tables_1 := List.mem_of_getElem? (i := 1651) rfl
set_option maxRecDepth 100000 in
theorem mc_244 : Jvm.Cond.code (myY 244) (myB 244) (myM 244) (myR 244) ∈ tables_1 := List.mem_of_getElem? (i := 1647) rfl
set_option maxRecDepth 100000 in
theorem mc_245 : Jvm.Cond.code (myY 245) (myB 245) (myM 245) (myR 245) ∈ tables_1 := List.mem_of_getElem? (i := 1642) rfl
set_option maxRecDepth 100000 in
theorem mc_246 : Jvm.Cond.code (myY 246) (myB 246) (myM 246) (myR 246) ∈ tables_1 := List.mem_of_getElem? (i := 1668) rfl
set_option maxRecDepth 100000 in
theorem mc_247 : Jvm.Cond.code (myY 247) (myB 247) (myM 247) (myR 247) ∈ tables_1 := List.mem_of_getElem? (i := 1659) rfl
set_option maxRecDepth 100000 in
theorem mc_248 : Jvm.Cond.code (myY 248) (myB 248) (myM 248) (myR 248) ∈ tables_1 := List.mem_of_getElem? (i := 1672) rfl
set_option maxRecDepth 100000 in
theorem mc_249 : Jvm.Cond.code (myY 249) (myB 249) (myM 249) (myR 249) ∈ tables_1 := List.mem_of_getElem? (i := 1677) rfl
set_option maxRecDepth 100000 in
theorem mc_250 : Jvm.Cond.code (myY 250) (myB 250) (myM 250) (myR 250) ∈ tables_1 := List.mem_of_getElem? (i := 1664) rfl
set_option maxRecDepth 100000 in
theorem mc_251 : Jvm.Cond.code (myY 251) (myB 251) (myM 251) (myR 251) ∈ tables_1 := List.mem_of_getElem? (i := 1656) rfl
set_option maxRecDepth 100000 in
theorem mc_252 : Jvm.Cond.code (myY 252) (myB 252) (myM 252) (myR 252) ∈ tables_1 := List.mem_of_getElem? (i := 1681) rfl
set_option maxRecDepth 100000 in
theorem mc_253 : Jvm.Cond.code (myY 253) (myB 253) (myM 253) (myR 253) ∈ tables_1 := List.mem_of_getElem? (i := 1691) rfl
set_option maxRecDepth 100000 in
theorem mc_254 : Jvm.Cond.code (myY 254) (myB 254) (myM 254) (myR 254) ∈ tables_1 := List.mem_of_getElem? (i := 1695) rfl
set_option maxRecDepth 100000 in
theorem mc_255 : Jvm.Cond.code (myY 255) (myB 255) (myM 255) (myR 255) ∈ tables_1 := List.mem_of_getElem? (i := 1685) rfl
set_option maxRecDepth 100000 in
theorem mc_256 : Jvm.Cond.code (myY 256) (myB 256) (myM 256) (myR 256) ∈ tables_1 := List.mem_of_getElem? (i := 1699) rfl
set_option maxRecDepth 100000 in
theorem mc_257 : Jvm.Cond.code (myY 257) (myB 257) (myM 257) (myR 257) ∈ tables_1 := List.mem_of_getElem? (i := 1703) rfl
set_option maxRecDepth 100000 in
theorem mc_258 : Jvm.Cond.code (myY 258) (myB 258) (myM 258) (myR 258) ∈ tables_1 := List.mem_of_getElem? (i := 1707) rfl
set_option maxRecDepth 100000 in
theorem mc_259 : Jvm.Cond.code (myY 259) (myB 259) (myM 259) (myR 259) ∈ tables_1 := List.mem_of_getElem? (i := 1720) rfl
set_option maxRecDepth 100000 in
theorem mc_260 : Jvm.Cond.code (myY 260) (myB 260) (myM 260) (myR 260) ∈ tables_1 := List.mem_of_getElem? (i := 1716) rfl
set_option maxRecDepth 100000 in
theorem mc_261 : Jvm.Cond.code (myY 261) (myB 261) (myM 261) (myR 261) ∈ tables_1 := List.mem_of_getElem? (i := 1711) rfl
set_option maxRecDepth 100000 in
theorem mc_262 : Jvm.Cond.code (myY 262) (myB 262) (myM 262) (myR 262) ∈ tables_1 := List.mem_of_getElem? (i := 1724) rfl
set_option maxRecDepth 100000 in
theorem mc_263 : Jvm.Cond.code (myY 263) (myB 263) (myM 263) (myR 263) ∈ tables_1 := List.mem_of_getElem? (i := 1728) rfl
set_option maxRecDepth 100000 in
theorem mc_264 : Jvm.Cond.code (myY 264) (myB 264) (myM 264) (myR 264) ∈ tables_1 := List.mem_of_getElem? (i := 1732) rfl
set_option maxRecDepth 100000 in
theorem mc_265 : Jvm.Cond.code (myY 265) (myB 265) (myM 265) (myR 265) ∈ tables_1 := List.mem_of_getElem? (i := 1736) rfl
set_option maxRecDepth 100000 in
theorem mc_266 : Jvm.Cond.code (myY 266) (myB 266) (myM 266) (myR 266) ∈ tables_1 := List.mem_of_getElem? (i := 1742) rfl
set_option maxRecDepth 100000 in
theorem mc_267 : Jvm.Cond.code (myY 267) (myB 267) (myM 267) (myR 267) ∈ tables_1 := List.mem_of_getElem? (i := 1750) rfl
set_option maxRecDepth 100000 in
theorem mc_268 : Jvm.Cond.code (myY 268) (myB 268) (myM 268) (myR 268) ∈ tables_1 := List.mem_of_getElem? (i := 1759) rfl
set_option maxRecDepth 100000 in
theorem mc_269 : Jvm.Cond.code (myY 269) (myB 269) (myM 269) (myR 269) ∈ tables_1 := List.mem_of_getElem? (i := 1755) rfl
set_option maxRecDepth 100000 in
theorem mc_270 : Jvm.Cond.code (myY 270) (myB 270) (myM 270) (myR 270) ∈ tables_1 := List.mem_of_getElem? (i := 1746) rfl
set_option maxRecDepth 100000 in
theorem mc_271 : Jvm.Cond.code (myY 271) (myB 271) (myM 271) (myR 271) ∈ tables_1 := List.mem_of_getElem? (i := 1763) rfl
set_option maxRecDepth 100000 in
theorem mc_272 : Jvm.Cond.code (myY 272) (myB 272) (myM 272) (myR 272) ∈ tables_1 := List.mem_of_getElem? (i := 1767) rfl
set_option maxRecDepth 100000 in
theorem mc_273 : Jvm.Cond.code (myY 273) (myB 273) (myM 273) (myR 273) ∈ tables_1 := List.mem_of_getElem? (i := 1775) rfl
set_option maxRecDepth 100000 in
theorem mc_274 : Jvm.Cond.code (myY 274) (myB 274) (myM 274) (myR 274) ∈ tables_1 := List.mem_of_getElem? (i := 1771) rfl
set_option maxRecDepth 100000 in
theorem mc_275 : Jvm.Cond.code (myY 275) (myB 275) (myM 275) (myR 275) ∈ tables_1 := List.mem_of_getElem? (i := 1783) rfl
set_option maxRecDepth 100000 in
theorem mc_276 : Jvm.Cond.code (myY 276) (myB 276) (myM 276) (myR 276) ∈ tables_1 := List.mem_of_getElem? (i := 1779) rfl
set_option maxRecDepth 100000 in
theorem mc_277 : Jvm.Cond.code (myY 277) (myB 277) (myM 277) (myR 277) ∈ tables_1 := List.mem_of_getElem? (i := 1803) rfl
set_option maxRecDepth 100000 in
theorem mc_278 : Jvm.Cond.code (myY 278) (myB 278) (myM 278) (myR 278) ∈ tables_1 := List.mem_of_getElem? (i := 1799) rfl
set_option maxRecDepth 100000 in
theorem mc_279 : Jvm.Cond.code (myY 279) (myB 279) (myM 279) (myR 279) ∈ tables_1 := List.mem_of_getElem? (i := 1795) rfl
set_option maxRecDepth 100000 in
theorem mc_280 : Jvm.Cond.code (myY 280) (myB 280) (myM 280) (myR 280) ∈ tables_1 := List.mem_of_getElem? (i := 1807) rfl
set_option maxRecDepth 100000 in
theorem mc_281 : Jvm.Cond.code (myY 281) (myB 281) (myM 281) (myR 281) ∈ tables_1 := List.mem_of_getElem? (i := 1791) rfl
set_option maxRecDepth 100000 in
theorem mc_282 : Jvm.Cond.code (myY 282) (myB 282) (myM 282) (myR 282) ∈ tables_1 := List.mem_of_getElem? (i := 1787) rfl
set_option maxRecDepth 100000 in
theorem mc_283 : Jvm.Cond.code (myY 283) (myB 283) (myM 283) (myR 283) ∈ tables_1 := List.mem_of_getElem? (i := 1811) rfl
set_option maxRecDepth 100000 in
theorem mc_284 : Jvm.Cond.code (myY 284) (myB 284) (myM 284) (myR 284) ∈ tables_1 := List.mem_of_getElem? (i := 1820) rfl
set_option maxRecDepth 100000 in
theorem mc_285 : Jvm.Cond.code (myY 285) (myB 285) (myM 285) (myR 285) ∈ tables_1 := List.mem_of_getElem? (i := 1823) rfl
set_option maxRecDepth 100000 in
theorem mc_286 : Jvm.Cond.code (myY 286) (myB 286) (myM 286) (myR 286) ∈ tables_1 := List.mem_of_getElem? (i := 1829) rfl
set_option maxRecDepth 100000 in
theorem mc_287 : Jvm.Cond.code (myY 287) (myB 287) (myM 287) (myR 287) ∈ tables_1 := List.mem_of_getElem? (i := 1826) rfl
set_option maxRecDepth 100000 in
theorem mc_288 : Jvm.Cond.code (myY 288) (myB 288) (myM 288) (myR 288) ∈ tables_1 := List.mem_of_getElem? (i := 1815) rfl
set_option maxRecDepth 100000 in
theorem mc_289 : Jvm.Cond.code (myY 289) (myB 289) (myM 289) (myR 289) ∈ tables_1 := List.mem_of_getElem? (i := 1833) rfl
set_option maxRecDepth 100000 in
theorem mc_290 : Jvm.Cond.code (myY 290) (myB 290) (myM 290) (myR 290) ∈ tables_1 := List.mem_of_getElem? (i := 1845) rfl
set_option maxRecDepth 100000 in
theorem mc_291 : Jvm.Cond.code (myY 291) (myB 291) (myM 291) (myR 291) ∈ tables_1 := List.mem_of_getElem? (i := 1837) rfl
set_option maxRecDepth 100000 in
theorem mc_292 : Jvm.Cond.code (myY 292) (myB 292) (myM 292) (myR 292) ∈ tables_1 := List.mem_of_getElem? (i := 1841) rfl
set_option maxRecDepth 100000 in
theorem mc_293 : Jvm.Cond.code (myY 293) (myB 293) (myM 293) (myR 293) ∈ tables_1 := List.mem_of_getElem? (i := 1849) rfl
set_option maxRecDepth 100000 in
theorem mc_294 : Jvm.Cond.code (myY 294) (myB 294) (myM 294) (myR 294) ∈ tables_1 := List.mem_of_getElem? (i := 1853) rfl
set_option maxRecDepth 100000 in
theorem mc_295 : Jvm.Cond.code (myY 295) (myB 295) (myM 295) (myR 295) ∈ tables_1 := List.mem_of_getElem? (i := 1857) rfl
set_option maxRecDepth 100000 in
theorem mc_296 : Jvm.Cond.code (myY 296) (myB 296) (myM 296) (myR 296) ∈ tables_1 := List.mem_of_getElem? (i := 1861) rfl
set_option maxRecDepth 100000 in
theorem mc_297 : Jvm.Cond.code (myY 297) (myB 297) (myM 297) (myR 297) ∈ tables_1 := List.mem_of_getElem? (i := 506) rfl
set_option maxRecDepth 100000 in
theorem mc_298 : Jvm.Cond.code (myY 298) (myB 298) (myM 298) (myR 298) ∈ tables_1 := List.mem_of_getElem? (i := 510) rfl
set_option maxRecDepth 100000 in
theorem mc_299 : Jvm.Cond.code (myY 299) (myB 299) (myM 299) (myR 299) ∈ tables_1 := List.mem_of_getElem? (i := 516) rfl
set_option maxRecDepth 100000 in
theorem mc_300 : Jvm.Cond.code (myY 300) (myB 300) (myM 300) (myR 300) ∈ tables_1 := List.mem_of_getElem? (i := 520) rfl
set_option maxRecDepth 100000 in
theorem mc_301 : Jvm.Cond.code (myY 301) (myB 301) (myM 301) (myR 301) ∈ tables_1 := List.mem_of_getElem? (i := 526) rfl
set_option maxRecDepth 100000 in
theorem mc_302 : Jvm.Cond.code (myY 302) (myB 302) (myM 302) (myR 302) ∈ tables_1 := List.mem_of_getElem? (i := 523) rfl
set_option maxRecDepth 100000 in
theorem mc_303 : Jvm.Cond.code (myY 303) (myB 303) (myM 303) (myR 303) ∈ tables_1 := List.mem_of_getElem? (i := 531) rfl
set_option maxRecDepth 100000 in
theorem mc_304 : Jvm.Cond.code (myY 304) (myB 304) (myM 304) (myR 304) ∈ tables_1 := List.mem_of_getElem? (i := 562) rfl
set_option maxRecDepth 100000 in
theorem mc_305 : Jvm.Cond.code (myY 305) (myB 305) (myM 305) (myR 305) ∈ tables_1 := List.mem_of_getElem? (i := 566) rfl
set_option maxRecDepth 100000 in
theorem mc_306 : Jvm.Cond.code (myY 306) (myB 306) (myM 306) (myR 306) ∈ tables_1 := List.mem_of_getElem? (i := 573) rfl
set_option maxRecDepth 100000 in
theorem mc_307 : Jvm.Cond.code (myY 307) (myB 307) (myM 307) (myR 307) ∈ tables_1 := List.mem_of_getElem? (i := 570) rfl
set_option maxRecDepth 100000 in
theorem mc_308 : Jvm.Cond.code (myY 308) (myB 308) (myM 308) (myR 308) ∈ tables_1 := List.mem_of_getElem? (i := 578) rfl
set_option maxRecDepth 100000 in
theorem mc_309 : Jvm.Cond.code (myY 309) (myB 309) (myM 309) (myR 309) ∈ tables_1 := List.mem_of_getElem? (i := 182) rfl
set_option maxRecDepth 100000 in
theorem mc_310 : Jvm.Cond.code (myY 310) (myB 310) (myM 310) (myR 310) ∈ tables_1 := List.mem_of_getElem? (i := 803) rfl
set_option maxRecDepth 100000 in
theorem mc_311 : Jvm.Cond.code (myY 311) (myB 311) (myM 311) (myR 311) ∈ tables_1 := List.mem_of_getElem? (i := 1067) rfl
set_option maxRecDepth 100000 in
theorem mc_312 : Jvm.Cond.code (myY 312) (myB 312) (myM 312) (myR 312) ∈ tables_1 := List.mem_of_getElem? (i := 479) rfl
set_option maxRecDepth 100000 in
theorem mc_313 : Jvm.Cond.code (myY 313) (myB 313) (myM 313) (myR 313) ∈ tables_1 := List.mem_of_getElem? (i := 479) rfl
set_option maxRecDepth 100000 in
theorem mc_314 : Jvm.Cond.code (myY 314) (myB 314) (myM 314) (myR 314) ∈ tables_1 := List.mem_of_getElem? (i := 476) rfl
set_option maxRecDepth 100000 in
theorem mc_315 : Jvm.Cond.code (myY 315) (myB 315) (myM 315) (myR 315) ∈ tables_1 := List.mem_of_getElem? (i := 476) rfl
theorem mcu_20 : ∀ m, m < 20 → Jvm.Cond.code (myY m) (myB m) (myM m) (myR m) ∈ tables_1 := lt_s (lt_s (lt_s (lt_s (lt_s (lt_s (lt_s (lt_s (lt_s (lt_s (lt_s (lt_s (lt_s (lt_s (lt_s (lt_s (lt_s (lt_s (lt_s (lt_s (lt_0) mc_0) mc_1) mc_2) mc_3) mc_4) mc_5) mc_6) mc_7) mc_8) mc_9) mc_10) mc_11) mc_12) mc_13) mc_14) mc_15) mc_16) mc_17) mc_18) mc_19
theorem mcu_40 : ∀ m, m < 40 → Jvm.Cond.code (myY m) (myB m) (myM m) (myR m) ∈ tables_1 := lt_s (lt_s (lt_s (lt_s (lt_s (lt_s (lt_s (lt_s (lt_s (lt_s (lt_s (lt_s (lt_s (lt_s (lt_s (lt_s (lt_s (lt_s (lt_s (lt_s (mcu_20) mc_20) mc_21) mc_22) mc_23) mc_24) mc_25) mc_26) mc_27) mc_28) mc_29) mc_30) mc_31) mc_32) mc_33) mc_34) mc_35) mc_36) mc_37) mc_38) mc_39
theorem mcu_60 : ∀ m, m < 60 → Jvm.Cond.code (myY m) (myB m) (myM m) (myR m) ∈ tables_1 := lt_s (lt_s (lt_s (lt_s (lt_s (lt_s (lt_s (lt_s (lt_s (lt_s (lt_s (lt_s (lt_s (lt_s (lt_s (lt_s (lt_s (lt_s (lt_s (lt_s (mcu_40) mc_40) mc_41) mc_42) mc_43) mc_44) mc_45) mc_46) mc_47) mc_48) mc_49) mc_50) mc_51) mc_52) mc_53) mc_54) mc_55) mc_56) mc_57) mc_58) mc_59
theorem mcu_80 : ∀ m, m < 80 → Jvm.Cond.code (myY m) (myB m) (myM m) (myR m) ∈ tables_1 := lt_s (lt_s (lt_s (lt_s (lt_s (lt_s (lt_s (lt_s (lt_s (lt_s (lt_s (lt_s (lt_s (lt_s (lt_s (lt_s (lt_s (lt_s (lt_s (lt_s (mcu_60) mc_60) mc_61) mc_62) mc_63) mc_64) mc_65) mc_66) mc_67) mc_68) mc_69) mc_70) mc_71) mc_72) mc_73) mc_74) mc_75) mc_76) mc_77) mc_78) mc_79
theorem mcu_100 : ∀ m, m < 100 → Jvm.Cond.code (myY m) (myB m) (myM m) (myR m) ∈ tables_1 := lt_s (lt_s (lt_s (lt_s (lt_s (lt_s (lt_s (lt_s (lt_s (lt_s (lt_s (lt_s (lt_s (lt_s (lt_s (lt_s (lt_s (lt_s (lt_s (lt_s (mcu_80) mc_80) mc_81) mc_82) mc_83) mc_84) mc_85) mc_86) mc_87) mc_88) mc_89) mc_90) mc_91) mc_92) mc_93) mc_94) mc_95) mc_96) mc_97) mc_98) mc_99
theorem mcu_120 : ∀ m, m < 120 → Jvm.Cond.code (myY m) (myB m) (myM m) (myR m) ∈ tables_1 := lt_s (lt_s (lt_s (lt_s (lt_s (lt_s (lt_s (lt_s (lt_s (lt_s (lt_s (lt_s (lt_s (lt_s (lt_s (lt_s (lt_s (lt_s (lt_s (lt_s (mcu_100) mc_100) mc_101) mc_102) mc_103) mc_104) mc_105) mc_106) mc_107) mc_108) mc_109) mc_110) mc_111) mc_112) mc_113) mc_114) mc_115) mc_116) mc_117) mc_118) mc_119
theorem mcu_140 : ∀ m, m < 140 → Jvm.Cond.code (myY m) (myB m) (myM m) (myR m) ∈ tables_1 := lt_s (lt_s (lt_s (lt_s (lt_s (lt_s (lt_s (lt_s (lt_s (lt_s (lt_s (lt_s (lt_s (lt_s (lt_s (lt_s (lt_s (lt_s (lt_s (lt_s (mcu_120) mc_120) mc_121) mc_122) mc_123) mc_124) mc_125) mc_126) mc_127) mc_128) mc_129) mc_130) mc_131) mc_132) mc_133) mc_134) mc_135) mc_136) mc_137) mc_138) mc_139
theorem mcu_160 : ∀ m, m < 160 → Jvm.Cond.code (myY m) (myB m) (myM m) (myR m) ∈ tables_1 := lt_s (lt_s (lt_s (lt_s (lt_s (lt_s (lt_s (lt_s (lt_s (lt_s (lt_s (lt_s (lt_s (lt_s (lt_s (lt_s (lt_s (lt_s (lt_s (lt_s (mcu_140) mc_140) mc_141) mc_142) mc_143) mc_144) mc_145) mc_146) mc_147) mc_148) mc_149) mc_150) mc_151) mc_152) mc_153) mc_154) mc_155) mc_156) mc_157) mc_158) mc_159
theorem mcu_180 : ∀ m, m < 180 → Jvm.Cond.code (myY m) (myB m) (myM m) (myR m) ∈ tables_1 := lt_s (lt_s (lt_s (lt_s (lt_s (lt_s (lt_s (lt_s (lt_s (lt_s (lt_s (lt_s (lt_s (lt_s (lt_s (lt_s (lt_s (lt_s (lt_s (lt_s (mcu_160) mc_160) mc_161) mc_162) mc_163) mc_164) mc_165) mc_166) mc_167) mc_168) mc_169) mc_170) mc_171) mc_172) mc_173) mc_174) mc_175) mc_176) mc_177) mc_178) mc_179
theorem mcu_200 : ∀ m, m < 200 → Jvm.Cond.code (myY m) (myB m) (myM m) (myR m) ∈ tables_1 := lt_s (lt_s (lt_s (lt_s (lt_s (lt_s (lt_s (lt_s (lt_s (lt_s (lt_s (lt_s (lt_s (lt_s (lt_s (lt_s (lt_s (lt_s (lt_s (lt_s (mcu_180) mc_180) mc_181) mc_182) mc_183) mc_184) mc_185) mc_186) mc_187) mc_188) mc_189) mc_190) mc_191) mc_192) mc_193) mc_194) mc_195) mc_196) mc_197) mc_198) mc_199
theorem mcu_220 : ∀ m, m < 220 → Jvm.Cond.code (myY m) (myB m) (myM m) (myR m) ∈ tables_1 := lt_s (lt_s (lt_s (lt_s (lt_s (lt_s (lt_s (lt_s (lt_s (lt_s (lt_s (lt_s (lt_s (lt_s (lt_s (lt_s (lt_s (lt_s (lt_s (lt_s (mcu_200) mc_200) mc_201) mc_202) mc_203) mc_204) mc_205) mc_206) mc_207) mc_208) mc_209) mc_210) mc_211) mc_212) mc_213) mc_214) mc_215) mc_216) mc_217) mc_218) mc_219
theorem mcu_240 : ∀ m, m < 240 → Jvm.Cond.code (myY m) (myB m) (myM m) (myR m) ∈ tables_1 := lt_s (lt_s (lt_s (lt_s (lt_s (lt_s (lt_s (lt_s (lt_s (lt_s (lt_s (lt_s (lt_s (lt_s (lt_s (lt_s (lt_s (lt_s (lt_s (lt_s (mcu_220) mc_220) mc_221) mc_222) mc_223) mc_224) mc_225) mc_226) mc_227) mc_228) mc_229) mc_230) mc_231) mc_232) mc_233) mc_234) mc_235) mc_236) mc_237) mc_238) mc_239
theorem mcu_260 : ∀ m, m < 260 → Jvm.Cond.code (myY m) (myB m) (myM m) (myR m) ∈ tables_1 := lt_s (lt_s (lt_s (lt_s (lt_s (lt_s (lt_s (lt_s (lt_s (lt_s (lt_s (lt_s (lt_s (lt_s (lt_s (lt_s (lt_s (lt_s (lt_s (lt_s (mcu_240) mc_240) mc_241) mc_242) mc_243) mc_244) mc_245) mc_246) mc_247) mc_248) mc_249) mc_250) mc_251) mc_252) mc_253) mc_254) mc_255) mc_256) mc_257) mc_258) mc_259
theorem mcu_280 : ∀ m, m < 280 → Jvm.Cond.code (myY m) (myB m) (myM m) (myR m) ∈ tables_1 := lt_s (lt_s (lt_s (lt_s (lt_s (lt_s (lt_s (lt_s (lt_s (lt_s (lt_s (lt_s (lt_s (lt_s (lt_s (lt_s (lt_s (lt_s (lt_s (lt_s (mcu_260) mc_260) mc_261) mc_262) mc_263) mc_264) mc_265) mc_266) mc_267) mc_268) mc_269) mc_270) mc_271) mc_272) mc_273) mc_274) mc_275) mc_276) mc_277) mc_278) mc_279
theorem mcu_300 : ∀ m, m < 300 → Jvm.Cond.code (myY m) (myB m) (myM m) (myR m) ∈ tables_1 := lt_s (lt_s (lt_s (lt_s (lt_s (lt_s (lt_s (lt_s (lt_s (lt_s (lt_s (lt_s (lt_s (lt_s (lt_s (lt_s (lt_s (lt_s (lt_s (lt_s (mcu_280) mc_280) mc_281) mc_282) mc_283) mc_284) mc_285) mc_286) mc_287) mc_288) mc_289) mc_290) mc_291) mc_292) mc_293) mc_294) mc_295) mc_296) mc_297) mc_298) mc_299
theorem mcu_316 : ∀ m, m < 316 → Jvm.Cond.code (myY m) (myB m) (myM m) (myR m) ∈ tables_1 := lt_s (lt_s (lt_s (lt_s (lt_s (lt_s (lt_s (lt_s (lt_s (lt_s (lt_s (lt_s (lt_s (lt_s (lt_s (lt_s (mcu_300) mc_300) mc_301) mc_302) mc_303) mc_304) mc_305) mc_306) mc_307) mc_308) mc_309) mc_310) mc_311) mc_312) mc_313) mc_314) mc_315
