/-! The law: a theorem a case of its switch, by program (wip/whole/mk55.py) -/
theorem kc_L13 : Cond.constantLong RL 13 4294967295 ∈ TB := tb_of 1183 (by decide +kernel) rfl
theorem cb_X7_write : CwB yX7_write cX7_write 5 (some .int) 2 := ⟨tb_of 376 (by decide +kernel) rfl, tb_of 53 (by decide +kernel) rfl, by decide +kernel⟩
theorem lm_RL_15 : Cond.methodLink RL 15 yX7_write ∈ TB ∧ Cond.instanceMethod yX7_write ∈ TB ∧ Cond.selects yX7_write.cls yX7_write yX7_write ∈ TB := ⟨tb_of 373 (by decide +kernel) rfl, tb_of 374 (by decide +kernel) rfl, tb_of 375 (by decide +kernel) rfl⟩
theorem cb_X8_write : CwB yX8_write cX8_write 5 (some .int) 2 := ⟨tb_of 946 (by decide +kernel) rfl, tb_of 63 (by decide +kernel) rfl, by decide +kernel⟩
theorem lm_RL_19 : Cond.methodLink RL 19 yX8_write ∈ TB ∧ Cond.instanceMethod yX8_write ∈ TB ∧ Cond.selects yX8_write.cls yX8_write yX8_write ∈ TB := ⟨tb_of 943 (by decide +kernel) rfl, tb_of 944 (by decide +kernel) rfl, tb_of 945 (by decide +kernel) rfl⟩
theorem cb_X7_erase : CwB yX7_erase cX7_erase 2 (some .int) 0 := ⟨tb_of 389 (by decide +kernel) rfl, tb_of 53 (by decide +kernel) rfl, by decide +kernel⟩
theorem lm_RL_20 : Cond.methodLink RL 20 yX7_erase ∈ TB ∧ Cond.instanceMethod yX7_erase ∈ TB ∧ Cond.selects yX7_erase.cls yX7_erase yX7_erase ∈ TB := ⟨tb_of 386 (by decide +kernel) rfl, tb_of 387 (by decide +kernel) rfl, tb_of 388 (by decide +kernel) rfl⟩
theorem cb_X8_erase : CwB yX8_erase cX8_erase 2 (some .int) 0 := ⟨tb_of 955 (by decide +kernel) rfl, tb_of 63 (by decide +kernel) rfl, by decide +kernel⟩
theorem lm_RL_24 : Cond.methodLink RL 24 yX8_erase ∈ TB ∧ Cond.instanceMethod yX8_erase ∈ TB ∧ Cond.selects yX8_erase.cls yX8_erase yX8_erase ∈ TB := ⟨tb_of 952 (by decide +kernel) rfl, tb_of 953 (by decide +kernel) rfl, tb_of 954 (by decide +kernel) rfl⟩
theorem cb_X7_fault : CwB yX7_fault cX7_fault 1 (some .int) 0 := ⟨tb_of 393 (by decide +kernel) rfl, tb_of 53 (by decide +kernel) rfl, by decide +kernel⟩
theorem lm_RL_25 : Cond.methodLink RL 25 yX7_fault ∈ TB ∧ Cond.instanceMethod yX7_fault ∈ TB ∧ Cond.selects yX7_fault.cls yX7_fault yX7_fault ∈ TB := ⟨tb_of 390 (by decide +kernel) rfl, tb_of 391 (by decide +kernel) rfl, tb_of 392 (by decide +kernel) rfl⟩
theorem lm_RL_28 : Cond.methodLink RL 28 yX8_fault ∈ TB ∧ Cond.instanceMethod yX8_fault ∈ TB ∧ Cond.selects yX8_fault.cls yX8_fault yX8_fault ∈ TB := ⟨tb_of 956 (by decide +kernel) rfl, tb_of 957 (by decide +kernel) rfl, tb_of 958 (by decide +kernel) rfl⟩
theorem cb_X7_land : CwB yX7_land cX7_land 1 (some .int) 0 := ⟨tb_of 539 (by decide +kernel) rfl, tb_of 53 (by decide +kernel) rfl, by decide +kernel⟩
theorem lm_RL_29 : Cond.methodLink RL 29 yX7_land ∈ TB ∧ Cond.instanceMethod yX7_land ∈ TB ∧ Cond.selects yX7_land.cls yX7_land yX7_land ∈ TB := ⟨tb_of 536 (by decide +kernel) rfl, tb_of 537 (by decide +kernel) rfl, tb_of 538 (by decide +kernel) rfl⟩
theorem cb_X8_land : CwB yX8_land cX8_land 2 (some .int) 0 := ⟨tb_of 1001 (by decide +kernel) rfl, tb_of 63 (by decide +kernel) rfl, by decide +kernel⟩
theorem lm_RL_32 : Cond.methodLink RL 32 yX8_land ∈ TB ∧ Cond.instanceMethod yX8_land ∈ TB ∧ Cond.selects yX8_land.cls yX8_land yX8_land ∈ TB := ⟨tb_of 998 (by decide +kernel) rfl, tb_of 999 (by decide +kernel) rfl, tb_of 1000 (by decide +kernel) rfl⟩
theorem cb_X7_train : CwB yX7_train cX7_train 3 (some .int) 2 := ⟨tb_of 545 (by decide +kernel) rfl, tb_of 53 (by decide +kernel) rfl, by decide +kernel⟩
theorem lm_RL_33 : Cond.methodLink RL 33 yX7_train ∈ TB ∧ Cond.instanceMethod yX7_train ∈ TB ∧ Cond.selects yX7_train.cls yX7_train yX7_train ∈ TB := ⟨tb_of 542 (by decide +kernel) rfl, tb_of 543 (by decide +kernel) rfl, tb_of 544 (by decide +kernel) rfl⟩
theorem cb_X8_train : CwB yX8_train cX8_train 3 (some .int) 2 := ⟨tb_of 1010 (by decide +kernel) rfl, tb_of 63 (by decide +kernel) rfl, by decide +kernel⟩
theorem lm_RL_37 : Cond.methodLink RL 37 yX8_train ∈ TB ∧ Cond.instanceMethod yX8_train ∈ TB ∧ Cond.selects yX8_train.cls yX8_train yX8_train ∈ TB := ⟨tb_of 1007 (by decide +kernel) rfl, tb_of 1008 (by decide +kernel) rfl, tb_of 1009 (by decide +kernel) rfl⟩
theorem cb_X7_runs : CwB yX7_runs cX7_runs 3 (some .int) 2 := ⟨tb_of 557 (by decide +kernel) rfl, tb_of 53 (by decide +kernel) rfl, by decide +kernel⟩
theorem lm_RL_38 : Cond.methodLink RL 38 yX7_runs ∈ TB ∧ Cond.instanceMethod yX7_runs ∈ TB ∧ Cond.selects yX7_runs.cls yX7_runs yX7_runs ∈ TB := ⟨tb_of 554 (by decide +kernel) rfl, tb_of 555 (by decide +kernel) rfl, tb_of 556 (by decide +kernel) rfl⟩
theorem cb_X8_runs : CwB yX8_runs cX8_runs 5 (some .int) 2 := ⟨tb_of 1019 (by decide +kernel) rfl, tb_of 63 (by decide +kernel) rfl, by decide +kernel⟩
theorem lm_RL_41 : Cond.methodLink RL 41 yX8_runs ∈ TB ∧ Cond.instanceMethod yX8_runs ∈ TB ∧ Cond.selects yX8_runs.cls yX8_runs yX8_runs ∈ TB := ⟨tb_of 1016 (by decide +kernel) rfl, tb_of 1017 (by decide +kernel) rfl, tb_of 1018 (by decide +kernel) rfl⟩
theorem cb_X7_as : CwB yX7_as cX7_as 3 (some .int) 2 := ⟨tb_of 578 (by decide +kernel) rfl, tb_of 53 (by decide +kernel) rfl, by decide +kernel⟩
theorem lm_RL_42 : Cond.methodLink RL 42 yX7_as ∈ TB ∧ Cond.instanceMethod yX7_as ∈ TB ∧ Cond.selects yX7_as.cls yX7_as yX7_as ∈ TB := ⟨tb_of 575 (by decide +kernel) rfl, tb_of 576 (by decide +kernel) rfl, tb_of 577 (by decide +kernel) rfl⟩
theorem cb_X8_as : CwB yX8_as cX8_as 5 (some .int) 2 := ⟨tb_of 1027 (by decide +kernel) rfl, tb_of 63 (by decide +kernel) rfl, by decide +kernel⟩
theorem lm_RL_45 : Cond.methodLink RL 45 yX8_as ∈ TB ∧ Cond.instanceMethod yX8_as ∈ TB ∧ Cond.selects yX8_as.cls yX8_as yX8_as ∈ TB := ⟨tb_of 1024 (by decide +kernel) rfl, tb_of 1025 (by decide +kernel) rfl, tb_of 1026 (by decide +kernel) rfl⟩
theorem cb_X7_ride : CwB yX7_ride cX7_ride 2 (some .int) 1 := ⟨tb_of 591 (by decide +kernel) rfl, tb_of 53 (by decide +kernel) rfl, by decide +kernel⟩
theorem lm_RL_46 : Cond.methodLink RL 46 yX7_ride ∈ TB ∧ Cond.instanceMethod yX7_ride ∈ TB ∧ Cond.selects yX7_ride.cls yX7_ride yX7_ride ∈ TB := ⟨tb_of 588 (by decide +kernel) rfl, tb_of 589 (by decide +kernel) rfl, tb_of 590 (by decide +kernel) rfl⟩
theorem cb_X8_ride : CwB yX8_ride cX8_ride 2 (some .int) 1 := ⟨tb_of 1032 (by decide +kernel) rfl, tb_of 63 (by decide +kernel) rfl, by decide +kernel⟩
theorem lm_RL_50 : Cond.methodLink RL 50 yX8_ride ∈ TB ∧ Cond.instanceMethod yX8_ride ∈ TB ∧ Cond.selects yX8_ride.cls yX8_ride yX8_ride ∈ TB := ⟨tb_of 1029 (by decide +kernel) rfl, tb_of 1030 (by decide +kernel) rfl, tb_of 1031 (by decide +kernel) rfl⟩
theorem cb_X7_send : CwB yX7_send cX7_send 3 (some .int) 2 := ⟨tb_of 604 (by decide +kernel) rfl, tb_of 53 (by decide +kernel) rfl, by decide +kernel⟩
theorem lm_RL_51 : Cond.methodLink RL 51 yX7_send ∈ TB ∧ Cond.instanceMethod yX7_send ∈ TB ∧ Cond.selects yX7_send.cls yX7_send yX7_send ∈ TB := ⟨tb_of 601 (by decide +kernel) rfl, tb_of 602 (by decide +kernel) rfl, tb_of 603 (by decide +kernel) rfl⟩
theorem cb_X8_send : CwB yX8_send cX8_send 4 (some .int) 2 := ⟨tb_of 1047 (by decide +kernel) rfl, tb_of 63 (by decide +kernel) rfl, by decide +kernel⟩
theorem lm_RL_54 : Cond.methodLink RL 54 yX8_send ∈ TB ∧ Cond.instanceMethod yX8_send ∈ TB ∧ Cond.selects yX8_send.cls yX8_send yX8_send ∈ TB := ⟨tb_of 1044 (by decide +kernel) rfl, tb_of 1045 (by decide +kernel) rfl, tb_of 1046 (by decide +kernel) rfl⟩
theorem cb_X7_noon : CwB yX7_noon cX7_noon 1 (some .int) 0 := ⟨tb_of 620 (by decide +kernel) rfl, tb_of 53 (by decide +kernel) rfl, by decide +kernel⟩
theorem lm_RL_55 : Cond.methodLink RL 55 yX7_noon ∈ TB ∧ Cond.instanceMethod yX7_noon ∈ TB ∧ Cond.selects yX7_noon.cls yX7_noon yX7_noon ∈ TB := ⟨tb_of 617 (by decide +kernel) rfl, tb_of 618 (by decide +kernel) rfl, tb_of 619 (by decide +kernel) rfl⟩
theorem cb_X8_noon : CwB yX8_noon cX8_noon 4 (some .int) 0 := ⟨tb_of 1054 (by decide +kernel) rfl, tb_of 63 (by decide +kernel) rfl, by decide +kernel⟩
theorem lm_RL_58 : Cond.methodLink RL 58 yX8_noon ∈ TB ∧ Cond.instanceMethod yX8_noon ∈ TB ∧ Cond.selects yX8_noon.cls yX8_noon yX8_noon ∈ TB := ⟨tb_of 1051 (by decide +kernel) rfl, tb_of 1052 (by decide +kernel) rfl, tb_of 1053 (by decide +kernel) rfl⟩
theorem cb_X7_he : CwB yX7_he cX7_he 2 (some .int) 1 := ⟨tb_of 653 (by decide +kernel) rfl, tb_of 53 (by decide +kernel) rfl, by decide +kernel⟩
theorem lm_RL_59 : Cond.methodLink RL 59 yX7_he ∈ TB ∧ Cond.instanceMethod yX7_he ∈ TB ∧ Cond.selects yX7_he.cls yX7_he yX7_he ∈ TB := ⟨tb_of 650 (by decide +kernel) rfl, tb_of 651 (by decide +kernel) rfl, tb_of 652 (by decide +kernel) rfl⟩
theorem cb_X8_he : CwB yX8_he cX8_he 2 (some .int) 1 := ⟨tb_of 1070 (by decide +kernel) rfl, tb_of 63 (by decide +kernel) rfl, by decide +kernel⟩
theorem lm_RL_62 : Cond.methodLink RL 62 yX8_he ∈ TB ∧ Cond.instanceMethod yX8_he ∈ TB ∧ Cond.selects yX8_he.cls yX8_he yX8_he ∈ TB := ⟨tb_of 1067 (by decide +kernel) rfl, tb_of 1068 (by decide +kernel) rfl, tb_of 1069 (by decide +kernel) rfl⟩
theorem cb_X7_seeker : CwB yX7_seeker cX7_seeker 2 (some .int) 1 := ⟨tb_of 657 (by decide +kernel) rfl, tb_of 53 (by decide +kernel) rfl, by decide +kernel⟩
theorem lm_RL_63 : Cond.methodLink RL 63 yX7_seeker ∈ TB ∧ Cond.instanceMethod yX7_seeker ∈ TB ∧ Cond.selects yX7_seeker.cls yX7_seeker yX7_seeker ∈ TB := ⟨tb_of 654 (by decide +kernel) rfl, tb_of 655 (by decide +kernel) rfl, tb_of 656 (by decide +kernel) rfl⟩
theorem cb_X8_seeker : CwB yX8_seeker cX8_seeker 2 (some .int) 1 := ⟨tb_of 1074 (by decide +kernel) rfl, tb_of 63 (by decide +kernel) rfl, by decide +kernel⟩
theorem lm_RL_66 : Cond.methodLink RL 66 yX8_seeker ∈ TB ∧ Cond.instanceMethod yX8_seeker ∈ TB ∧ Cond.selects yX8_seeker.cls yX8_seeker yX8_seeker ∈ TB := ⟨tb_of 1071 (by decide +kernel) rfl, tb_of 1072 (by decide +kernel) rfl, tb_of 1073 (by decide +kernel) rfl⟩
theorem cb_X7_may : CwB yX7_may cX7_may 1 (some .int) 0 := ⟨tb_of 661 (by decide +kernel) rfl, tb_of 53 (by decide +kernel) rfl, by decide +kernel⟩
theorem lm_RL_67 : Cond.methodLink RL 67 yX7_may ∈ TB ∧ Cond.instanceMethod yX7_may ∈ TB ∧ Cond.selects yX7_may.cls yX7_may yX7_may ∈ TB := ⟨tb_of 658 (by decide +kernel) rfl, tb_of 659 (by decide +kernel) rfl, tb_of 660 (by decide +kernel) rfl⟩
theorem cb_X8_may : CwB yX8_may cX8_may 1 (some .int) 0 := ⟨tb_of 1078 (by decide +kernel) rfl, tb_of 63 (by decide +kernel) rfl, by decide +kernel⟩
theorem lm_RL_70 : Cond.methodLink RL 70 yX8_may ∈ TB ∧ Cond.instanceMethod yX8_may ∈ TB ∧ Cond.selects yX8_may.cls yX8_may yX8_may ∈ TB := ⟨tb_of 1075 (by decide +kernel) rfl, tb_of 1076 (by decide +kernel) rfl, tb_of 1077 (by decide +kernel) rfl⟩
theorem cb_X7_way : CwB yX7_way cX7_way 1 (some .int) 0 := ⟨tb_of 665 (by decide +kernel) rfl, tb_of 53 (by decide +kernel) rfl, by decide +kernel⟩
theorem lm_RL_71 : Cond.methodLink RL 71 yX7_way ∈ TB ∧ Cond.instanceMethod yX7_way ∈ TB ∧ Cond.selects yX7_way.cls yX7_way yX7_way ∈ TB := ⟨tb_of 662 (by decide +kernel) rfl, tb_of 663 (by decide +kernel) rfl, tb_of 664 (by decide +kernel) rfl⟩
theorem cb_X8_way : CwB yX8_way cX8_way 1 (some .int) 0 := ⟨tb_of 1082 (by decide +kernel) rfl, tb_of 63 (by decide +kernel) rfl, by decide +kernel⟩
theorem lm_RL_74 : Cond.methodLink RL 74 yX8_way ∈ TB ∧ Cond.instanceMethod yX8_way ∈ TB ∧ Cond.selects yX8_way.cls yX8_way yX8_way ∈ TB := ⟨tb_of 1079 (by decide +kernel) rfl, tb_of 1080 (by decide +kernel) rfl, tb_of 1081 (by decide +kernel) rfl⟩
theorem cb_X7_next : CwB yX7_next cX7_next 1 (some .int) 0 := ⟨tb_of 669 (by decide +kernel) rfl, tb_of 53 (by decide +kernel) rfl, by decide +kernel⟩
theorem lm_RL_75 : Cond.methodLink RL 75 yX7_next ∈ TB ∧ Cond.instanceMethod yX7_next ∈ TB ∧ Cond.selects yX7_next.cls yX7_next yX7_next ∈ TB := ⟨tb_of 666 (by decide +kernel) rfl, tb_of 667 (by decide +kernel) rfl, tb_of 668 (by decide +kernel) rfl⟩
theorem cb_X8_next : CwB yX8_next cX8_next 1 (some .int) 0 := ⟨tb_of 1086 (by decide +kernel) rfl, tb_of 63 (by decide +kernel) rfl, by decide +kernel⟩
theorem lm_RL_78 : Cond.methodLink RL 78 yX8_next ∈ TB ∧ Cond.instanceMethod yX8_next ∈ TB ∧ Cond.selects yX8_next.cls yX8_next yX8_next ∈ TB := ⟨tb_of 1083 (by decide +kernel) rfl, tb_of 1084 (by decide +kernel) rfl, tb_of 1085 (by decide +kernel) rfl⟩
theorem cb_X7_letter : CwB yX7_letter cX7_letter 1 (some .int) 0 := ⟨tb_of 674 (by decide +kernel) rfl, tb_of 53 (by decide +kernel) rfl, by decide +kernel⟩
theorem lm_RL_79 : Cond.methodLink RL 79 yX7_letter ∈ TB ∧ Cond.instanceMethod yX7_letter ∈ TB ∧ Cond.selects yX7_letter.cls yX7_letter yX7_letter ∈ TB := ⟨tb_of 671 (by decide +kernel) rfl, tb_of 672 (by decide +kernel) rfl, tb_of 673 (by decide +kernel) rfl⟩
theorem cb_X8_letter : CwB yX8_letter cX8_letter 1 (some .int) 0 := ⟨tb_of 1090 (by decide +kernel) rfl, tb_of 63 (by decide +kernel) rfl, by decide +kernel⟩
theorem lm_RL_82 : Cond.methodLink RL 82 yX8_letter ∈ TB ∧ Cond.instanceMethod yX8_letter ∈ TB ∧ Cond.selects yX8_letter.cls yX8_letter yX8_letter ∈ TB := ⟨tb_of 1087 (by decide +kernel) rfl, tb_of 1088 (by decide +kernel) rfl, tb_of 1089 (by decide +kernel) rfl⟩
theorem cb_X7_shut : CwB yX7_shut cX7_shut 3 (some .int) 1 := ⟨tb_of 678 (by decide +kernel) rfl, tb_of 53 (by decide +kernel) rfl, by decide +kernel⟩
theorem lm_RL_83 : Cond.methodLink RL 83 yX7_shut ∈ TB ∧ Cond.instanceMethod yX7_shut ∈ TB ∧ Cond.selects yX7_shut.cls yX7_shut yX7_shut ∈ TB := ⟨tb_of 675 (by decide +kernel) rfl, tb_of 676 (by decide +kernel) rfl, tb_of 677 (by decide +kernel) rfl⟩
theorem cb_X8_shut : CwB yX8_shut cX8_shut 9 (some .int) 1 := ⟨tb_of 1094 (by decide +kernel) rfl, tb_of 63 (by decide +kernel) rfl, by decide +kernel⟩
theorem lm_RL_86 : Cond.methodLink RL 86 yX8_shut ∈ TB ∧ Cond.instanceMethod yX8_shut ∈ TB ∧ Cond.selects yX8_shut.cls yX8_shut yX8_shut ∈ TB := ⟨tb_of 1091 (by decide +kernel) rfl, tb_of 1092 (by decide +kernel) rfl, tb_of 1093 (by decide +kernel) rfl⟩
theorem cb_X7_hides : CwB yX7_hides cX7_hides 2 (some .int) 1 := ⟨tb_of 699 (by decide +kernel) rfl, tb_of 53 (by decide +kernel) rfl, by decide +kernel⟩
theorem lm_RL_87 : Cond.methodLink RL 87 yX7_hides ∈ TB ∧ Cond.instanceMethod yX7_hides ∈ TB ∧ Cond.selects yX7_hides.cls yX7_hides yX7_hides ∈ TB := ⟨tb_of 696 (by decide +kernel) rfl, tb_of 697 (by decide +kernel) rfl, tb_of 698 (by decide +kernel) rfl⟩
theorem cb_X8_hides : CwB yX8_hides cX8_hides 6 (some .int) 1 := ⟨tb_of 1109 (by decide +kernel) rfl, tb_of 63 (by decide +kernel) rfl, by decide +kernel⟩
theorem lm_RL_90 : Cond.methodLink RL 90 yX8_hides ∈ TB ∧ Cond.instanceMethod yX8_hides ∈ TB ∧ Cond.selects yX8_hides.cls yX8_hides yX8_hides ∈ TB := ⟨tb_of 1106 (by decide +kernel) rfl, tb_of 1107 (by decide +kernel) rfl, tb_of 1108 (by decide +kernel) rfl⟩
theorem cb_X7_chase : CwB yX7_chase cX7_chase 1 (some .int) 0 := ⟨tb_of 713 (by decide +kernel) rfl, tb_of 53 (by decide +kernel) rfl, by decide +kernel⟩
theorem lm_RL_91 : Cond.methodLink RL 91 yX7_chase ∈ TB ∧ Cond.instanceMethod yX7_chase ∈ TB ∧ Cond.selects yX7_chase.cls yX7_chase yX7_chase ∈ TB := ⟨tb_of 710 (by decide +kernel) rfl, tb_of 711 (by decide +kernel) rfl, tb_of 712 (by decide +kernel) rfl⟩
theorem cb_X8_chase : CwB yX8_chase cX8_chase 2 (some .int) 0 := ⟨tb_of 1113 (by decide +kernel) rfl, tb_of 63 (by decide +kernel) rfl, by decide +kernel⟩
theorem lm_RL_94 : Cond.methodLink RL 94 yX8_chase ∈ TB ∧ Cond.instanceMethod yX8_chase ∈ TB ∧ Cond.selects yX8_chase.cls yX8_chase yX8_chase ∈ TB := ⟨tb_of 1110 (by decide +kernel) rfl, tb_of 1111 (by decide +kernel) rfl, tb_of 1112 (by decide +kernel) rfl⟩
theorem cb_X7_closed : CwB yX7_closed cX7_closed 2 (some .int) 1 := ⟨tb_of 769 (by decide +kernel) rfl, tb_of 53 (by decide +kernel) rfl, by decide +kernel⟩
theorem lm_RL_95 : Cond.methodLink RL 95 yX7_closed ∈ TB ∧ Cond.instanceMethod yX7_closed ∈ TB ∧ Cond.selects yX7_closed.cls yX7_closed yX7_closed ∈ TB := ⟨tb_of 766 (by decide +kernel) rfl, tb_of 767 (by decide +kernel) rfl, tb_of 768 (by decide +kernel) rfl⟩
theorem cb_X8_closed : CwB yX8_closed cX8_closed 6 (some .int) 1 := ⟨tb_of 1136 (by decide +kernel) rfl, tb_of 63 (by decide +kernel) rfl, by decide +kernel⟩
theorem lm_RL_98 : Cond.methodLink RL 98 yX8_closed ∈ TB ∧ Cond.instanceMethod yX8_closed ∈ TB ∧ Cond.selects yX8_closed.cls yX8_closed yX8_closed ∈ TB := ⟨tb_of 1133 (by decide +kernel) rfl, tb_of 1134 (by decide +kernel) rfl, tb_of 1135 (by decide +kernel) rfl⟩
theorem cb_X7_log : CwB yX7_log cX7_log 2 (some .int) 1 := ⟨tb_of 778 (by decide +kernel) rfl, tb_of 53 (by decide +kernel) rfl, by decide +kernel⟩
theorem lm_RL_99 : Cond.methodLink RL 99 yX7_log ∈ TB ∧ Cond.instanceMethod yX7_log ∈ TB ∧ Cond.selects yX7_log.cls yX7_log yX7_log ∈ TB := ⟨tb_of 775 (by decide +kernel) rfl, tb_of 776 (by decide +kernel) rfl, tb_of 777 (by decide +kernel) rfl⟩
theorem cb_X8_log : CwB yX8_log cX8_log 2 (some .int) 1 := ⟨tb_of 1140 (by decide +kernel) rfl, tb_of 63 (by decide +kernel) rfl, by decide +kernel⟩
theorem lm_RL_102 : Cond.methodLink RL 102 yX8_log ∈ TB ∧ Cond.instanceMethod yX8_log ∈ TB ∧ Cond.selects yX8_log.cls yX8_log yX8_log ∈ TB := ⟨tb_of 1137 (by decide +kernel) rfl, tb_of 1138 (by decide +kernel) rfl, tb_of 1139 (by decide +kernel) rfl⟩
theorem cb_X7_burn : CwB yX7_burn cX7_burn 2 (some .int) 0 := ⟨tb_of 787 (by decide +kernel) rfl, tb_of 53 (by decide +kernel) rfl, by decide +kernel⟩
theorem lm_RL_103 : Cond.methodLink RL 103 yX7_burn ∈ TB ∧ Cond.instanceMethod yX7_burn ∈ TB ∧ Cond.selects yX7_burn.cls yX7_burn yX7_burn ∈ TB := ⟨tb_of 784 (by decide +kernel) rfl, tb_of 785 (by decide +kernel) rfl, tb_of 786 (by decide +kernel) rfl⟩
theorem cb_X8_burn : CwB yX8_burn cX8_burn 2 (some .int) 0 := ⟨tb_of 1144 (by decide +kernel) rfl, tb_of 63 (by decide +kernel) rfl, by decide +kernel⟩
theorem lm_RL_106 : Cond.methodLink RL 106 yX8_burn ∈ TB ∧ Cond.instanceMethod yX8_burn ∈ TB ∧ Cond.selects yX8_burn.cls yX8_burn yX8_burn ∈ TB := ⟨tb_of 1141 (by decide +kernel) rfl, tb_of 1142 (by decide +kernel) rfl, tb_of 1143 (by decide +kernel) rfl⟩
theorem cb_X7_judge : CwB yX7_judge cX7_judge 1 (some .int) 0 := ⟨tb_of 791 (by decide +kernel) rfl, tb_of 53 (by decide +kernel) rfl, by decide +kernel⟩
theorem lm_RL_107 : Cond.methodLink RL 107 yX7_judge ∈ TB ∧ Cond.instanceMethod yX7_judge ∈ TB ∧ Cond.selects yX7_judge.cls yX7_judge yX7_judge ∈ TB := ⟨tb_of 788 (by decide +kernel) rfl, tb_of 789 (by decide +kernel) rfl, tb_of 790 (by decide +kernel) rfl⟩
theorem cb_X8_judge : CwB yX8_judge cX8_judge 6 (some .int) 0 := ⟨tb_of 1148 (by decide +kernel) rfl, tb_of 63 (by decide +kernel) rfl, by decide +kernel⟩
theorem lm_RL_110 : Cond.methodLink RL 110 yX8_judge ∈ TB ∧ Cond.instanceMethod yX8_judge ∈ TB ∧ Cond.selects yX8_judge.cls yX8_judge yX8_judge ∈ TB := ⟨tb_of 1145 (by decide +kernel) rfl, tb_of 1146 (by decide +kernel) rfl, tb_of 1147 (by decide +kernel) rfl⟩
theorem cb_X7_late : CwB yX7_late cX7_late 10 (some .long) 3 := ⟨tb_of 806 (by decide +kernel) rfl, tb_of 53 (by decide +kernel) rfl, by decide +kernel⟩
theorem lm_RL_111 : Cond.methodLink RL 111 yX7_late ∈ TB ∧ Cond.instanceMethod yX7_late ∈ TB ∧ Cond.selects yX7_late.cls yX7_late yX7_late ∈ TB := ⟨tb_of 803 (by decide +kernel) rfl, tb_of 804 (by decide +kernel) rfl, tb_of 805 (by decide +kernel) rfl⟩
theorem cb_X8_late : CwB yX8_late cX8_late 12 (some .long) 3 := ⟨tb_of 1152 (by decide +kernel) rfl, tb_of 63 (by decide +kernel) rfl, by decide +kernel⟩
theorem lm_RL_115 : Cond.methodLink RL 115 yX8_late ∈ TB ∧ Cond.instanceMethod yX8_late ∈ TB ∧ Cond.selects yX8_late.cls yX8_late yX8_late ∈ TB := ⟨tb_of 1149 (by decide +kernel) rfl, tb_of 1150 (by decide +kernel) rfl, tb_of 1151 (by decide +kernel) rfl⟩
theorem cb_X7_keep : CwB yX7_keep cX7_keep 2 (some .int) 1 := ⟨tb_of 835 (by decide +kernel) rfl, tb_of 53 (by decide +kernel) rfl, by decide +kernel⟩
theorem lm_RL_116 : Cond.methodLink RL 116 yX7_keep ∈ TB ∧ Cond.instanceMethod yX7_keep ∈ TB ∧ Cond.selects yX7_keep.cls yX7_keep yX7_keep ∈ TB := ⟨tb_of 832 (by decide +kernel) rfl, tb_of 833 (by decide +kernel) rfl, tb_of 834 (by decide +kernel) rfl⟩
theorem cb_X8_keep : CwB yX8_keep cX8_keep 2 (some .int) 1 := ⟨tb_of 1170 (by decide +kernel) rfl, tb_of 63 (by decide +kernel) rfl, by decide +kernel⟩
theorem lm_RL_119 : Cond.methodLink RL 119 yX8_keep ∈ TB ∧ Cond.instanceMethod yX8_keep ∈ TB ∧ Cond.selects yX8_keep.cls yX8_keep yX8_keep ∈ TB := ⟨tb_of 1167 (by decide +kernel) rfl, tb_of 1168 (by decide +kernel) rfl, tb_of 1169 (by decide +kernel) rfl⟩
theorem cb_X7_back : CwB yX7_back cX7_back 2 (some .int) 1 := ⟨tb_of 847 (by decide +kernel) rfl, tb_of 53 (by decide +kernel) rfl, by decide +kernel⟩
theorem lm_RL_120 : Cond.methodLink RL 120 yX7_back ∈ TB ∧ Cond.instanceMethod yX7_back ∈ TB ∧ Cond.selects yX7_back.cls yX7_back yX7_back ∈ TB := ⟨tb_of 844 (by decide +kernel) rfl, tb_of 845 (by decide +kernel) rfl, tb_of 846 (by decide +kernel) rfl⟩
theorem cb_X8_back : CwB yX8_back cX8_back 2 (some .int) 1 := ⟨tb_of 1178 (by decide +kernel) rfl, tb_of 63 (by decide +kernel) rfl, by decide +kernel⟩
theorem lm_RL_123 : Cond.methodLink RL 123 yX8_back ∈ TB ∧ Cond.instanceMethod yX8_back ∈ TB ∧ Cond.selects yX8_back.cls yX8_back yX8_back ∈ TB := ⟨tb_of 1175 (by decide +kernel) rfl, tb_of 1176 (by decide +kernel) rfl, tb_of 1177 (by decide +kernel) rfl⟩
theorem cb_X7_count : CwB yX7_count cX7_count 2 (some .int) 1 := ⟨tb_of 851 (by decide +kernel) rfl, tb_of 53 (by decide +kernel) rfl, by decide +kernel⟩
theorem lm_RL_124 : Cond.methodLink RL 124 yX7_count ∈ TB ∧ Cond.instanceMethod yX7_count ∈ TB ∧ Cond.selects yX7_count.cls yX7_count yX7_count ∈ TB := ⟨tb_of 848 (by decide +kernel) rfl, tb_of 849 (by decide +kernel) rfl, tb_of 850 (by decide +kernel) rfl⟩
theorem cb_X8_count : CwB yX8_count cX8_count 2 (some .int) 1 := ⟨tb_of 1182 (by decide +kernel) rfl, tb_of 63 (by decide +kernel) rfl, by decide +kernel⟩
theorem lm_RL_127 : Cond.methodLink RL 127 yX8_count ∈ TB ∧ Cond.instanceMethod yX8_count ∈ TB ∧ Cond.selects yX8_count.cls yX8_count yX8_count ∈ TB := ⟨tb_of 1179 (by decide +kernel) rfl, tb_of 1180 (by decide +kernel) rfl, tb_of 1181 (by decide +kernel) rfl⟩
theorem cs_write {x m : Wd} (h : Rel x m) {l : Launch} {g : GG} (hg : OKl g) (a1 : Int64) (a2 : Int32) : ∃ (r : Int32) (x' m' : Wd), CT l g (k_LL, true, m) yX7_write cX7_write 5 (some .int) 2 43 [.ref (gA g 0), .long a1, .int a2] x (some (.int r)) x' ∧ (∀ o, CT l g (k_LL, false, o) yX8_write cX8_write 5 (some .int) 1 25 [.ref (gA g 37), .long a1, .int a2] m (some (.int r)) m') ∧ Rel x' m' := by
  obtain ⟨r, x', m', e1, e2, h2⟩ := r_write h a1 a2
  exact ⟨r, x', m', ct_Nt_write (g := g) (σ := (k_LL, true, m)) hg rfl k_all x a1 a2 e1, fun o => ct_Mo_write (g := g) (σ := (k_LL, false, o)) hg rfl k_all m a1 a2 e2, h2⟩
theorem lw_c_write {K : CtxL} {x m : Wd} {i : Int32} {j : Nat} (F : ljF K) (h : Rel x m) (hi : i = nI j) (hj : j + 3 < kL K) (kk : ∀ x' m', Rel x' m' → ljJ K x' m' i 768 []) : ljJ K x m i 156 [] := by
  obtain ⟨r, x', m', hc, hd, h2⟩ := cs_write h (l := k_lch K) (g := kg K) (lj_ok F) ((kx K (j + 1)).toInt64 <<< (((32 : Int32)).toInt64 &&& 63) ||| (kx K (j + 2)).toInt64 &&& 4294967295) (kx K (j + 3))
  refine lj_a1 F dL_law_156 ?_
  refine lj_arg F hi (n := 1) (by omega) dL_law_157 dL_law_158 dL_law_159 (by decide) dL_law_160 dL_law_161 ?_
  refine lj_i2l F dL_law_162 ?_
  refine lj_bipush F 32 dL_law_163 (by decide) ?_
  refine lj_lshl F dL_law_165 ?_
  refine lj_arg F hi (n := 2) (by omega) dL_law_166 dL_law_167 dL_law_168 (by decide) dL_law_169 dL_law_170 ?_
  refine lj_i2l F dL_law_171 ?_
  refine lj_ldc2 F 4294967295 dL_law_172 kc_L13 ?_
  refine lj_land F dL_law_175 ?_
  refine lj_lor F dL_law_176 ?_
  refine lj_arg F hi (n := 3) (by omega) dL_law_177 dL_law_178 dL_law_179 (by decide) dL_law_180 dL_law_181 ?_
  refine lj_callX F cb_X7_write lm_RL_15 ⟨_, _, rfl⟩ hc rfl rfl (Nat.le_of_ble_eq_true rfl) ⟨Nat.le_of_ble_eq_true rfl, Nat.le_of_ble_eq_true rfl⟩ dL_law_182 ?_
  refine lj_a2 F dL_law_185 ?_
  refine lj_arg F hi (n := 1) (by omega) dL_law_186 dL_law_187 dL_law_188 (by decide) dL_law_189 dL_law_190 ?_
  refine lj_i2l F dL_law_191 ?_
  refine lj_bipush F 32 dL_law_192 (by decide) ?_
  refine lj_lshl F dL_law_194 ?_
  refine lj_arg F hi (n := 2) (by omega) dL_law_195 dL_law_196 dL_law_197 (by decide) dL_law_198 dL_law_199 ?_
  refine lj_i2l F dL_law_200 ?_
  refine lj_ldc2 F 4294967295 dL_law_201 kc_L13 ?_
  refine lj_land F dL_law_204 ?_
  refine lj_lor F dL_law_205 ?_
  refine lj_arg F hi (n := 3) (by omega) dL_law_206 dL_law_207 dL_law_208 (by decide) dL_law_209 dL_law_210 ?_
  refine lj_callM F cb_X8_write lm_RL_19 ⟨_, _, rfl⟩ (hd _) rfl rfl (Nat.le_of_ble_eq_true rfl) ⟨Nat.le_of_ble_eq_true rfl, Nat.le_of_ble_eq_true rfl⟩ dL_law_211 ?_
  refine lj_cmp F dL_law_214 (by decide) ?_
  exact kk _ _ h2
theorem cs_erase {x m : Wd} (h : Rel x m) {l : Launch} {g : GG} (hg : OKl g) : ∃ (r : Int32) (x' m' : Wd), CT l g (k_LL, true, m) yX7_erase cX7_erase 2 (some .int) 0 0 [.ref (gA g 0)] x (some (.int r)) x' ∧ (∀ o, CT l g (k_LL, false, o) yX8_erase cX8_erase 2 (some .int) 0 0 [.ref (gA g 37)] m (some (.int r)) m') ∧ Rel x' m' := by
  obtain ⟨e, h2⟩ := r_erase h
  exact ⟨(Nt_erase x).1, (Nt_erase x).2, (Mo_erase m).2, ct_Nt_erase (g := g) (σ := (k_LL, true, m)) hg rfl k_all x, fun o => by rw [e]; exact ct_Mo_erase (g := g) (σ := (k_LL, false, o)) hg rfl k_all m, h2⟩
theorem lw_c_erase {K : CtxL} {x m : Wd} {i : Int32} {j : Nat} (F : ljF K) (h : Rel x m) (hi : i = nI j) (hj : j + 3 < kL K) (kk : ∀ x' m', Rel x' m' → ljJ K x' m' i 768 []) : ljJ K x m i 219 [] := by
  obtain ⟨r, x', m', hc, hd, h2⟩ := cs_erase h (l := k_lch K) (g := kg K) (lj_ok F)
  refine lj_a1 F dL_law_219 ?_
  refine lj_callX F cb_X7_erase lm_RL_20 ⟨_, _, rfl⟩ hc rfl rfl (Nat.le_of_ble_eq_true rfl) ⟨Nat.le_of_ble_eq_true rfl, Nat.le_of_ble_eq_true rfl⟩ dL_law_220 ?_
  refine lj_a2 F dL_law_223 ?_
  refine lj_callM F cb_X8_erase lm_RL_24 ⟨_, _, rfl⟩ (hd _) rfl rfl (Nat.le_of_ble_eq_true rfl) ⟨Nat.le_of_ble_eq_true rfl, Nat.le_of_ble_eq_true rfl⟩ dL_law_224 ?_
  refine lj_cmp F dL_law_227 (by decide) ?_
  exact kk _ _ h2
theorem cs_fault {x m : Wd} (h : Rel x m) {l : Launch} {g : GG} (hg : OKl g) : ∃ (r : Int32) (x' m' : Wd), CT l g (k_LL, true, m) yX7_fault cX7_fault 1 (some .int) 8 172 [.ref (gA g 0)] x (some (.int r)) x' ∧ (∀ o, CT l g (k_LL, false, o) yX8_fault cX8_fault 2 (some .int) 6 130 [.ref (gA g 37)] m (some (.int r)) m') ∧ Rel x' m' := by
  obtain ⟨r, x', m', e1, e2, h2⟩ := r_fault h
  exact ⟨r, x', m', ct_Nt_fault (g := g) (σ := (k_LL, true, m)) hg rfl k_all x e1, fun o => ct_Mo_fault (g := g) (σ := (k_LL, false, o)) hg rfl k_all m e2, h2⟩
theorem lw_c_fault {K : CtxL} {x m : Wd} {i : Int32} {j : Nat} (F : ljF K) (h : Rel x m) (hi : i = nI j) (hj : j + 3 < kL K) (kk : ∀ x' m', Rel x' m' → ljJ K x' m' i 768 []) : ljJ K x m i 232 [] := by
  obtain ⟨r, x', m', hc, hd, h2⟩ := cs_fault h (l := k_lch K) (g := kg K) (lj_ok F)
  refine lj_a1 F dL_law_232 ?_
  refine lj_callX F cb_X7_fault lm_RL_25 ⟨_, _, rfl⟩ hc rfl rfl (Nat.le_of_ble_eq_true rfl) ⟨Nat.le_of_ble_eq_true rfl, Nat.le_of_ble_eq_true rfl⟩ dL_law_233 ?_
  refine lj_a2 F dL_law_236 ?_
  refine lj_callM F cb_X8_fault lm_RL_28 ⟨_, _, rfl⟩ (hd _) rfl rfl (Nat.le_of_ble_eq_true rfl) ⟨Nat.le_of_ble_eq_true rfl, Nat.le_of_ble_eq_true rfl⟩ dL_law_237 ?_
  refine lj_cmp F dL_law_240 (by decide) ?_
  exact kk _ _ h2
theorem cs_land {x m : Wd} (h : Rel x m) {l : Launch} {g : GG} (hg : OKl g) : ∃ (r : Int32) (x' m' : Wd), CT l g (k_LL, true, m) yX7_land cX7_land 1 (some .int) 8 172 [.ref (gA g 0)] x (some (.int r)) x' ∧ (∀ o, CT l g (k_LL, false, o) yX8_land cX8_land 2 (some .int) 7 151 [.ref (gA g 37)] m (some (.int r)) m') ∧ Rel x' m' := by
  obtain ⟨r, x', m', e1, e2, h2⟩ := r_land h
  exact ⟨r, x', m', ct_Nt_land (g := g) (σ := (k_LL, true, m)) hg rfl k_all x e1, fun o => ct_Mo_land (g := g) (σ := (k_LL, false, o)) hg rfl k_all m e2, h2⟩
theorem lw_c_land {K : CtxL} {x m : Wd} {i : Int32} {j : Nat} (F : ljF K) (h : Rel x m) (hi : i = nI j) (hj : j + 3 < kL K) (kk : ∀ x' m', Rel x' m' → ljJ K x' m' i 768 []) : ljJ K x m i 245 [] := by
  obtain ⟨r, x', m', hc, hd, h2⟩ := cs_land h (l := k_lch K) (g := kg K) (lj_ok F)
  refine lj_a1 F dL_law_245 ?_
  refine lj_callX F cb_X7_land lm_RL_29 ⟨_, _, rfl⟩ hc rfl rfl (Nat.le_of_ble_eq_true rfl) ⟨Nat.le_of_ble_eq_true rfl, Nat.le_of_ble_eq_true rfl⟩ dL_law_246 ?_
  refine lj_a2 F dL_law_249 ?_
  refine lj_callM F cb_X8_land lm_RL_32 ⟨_, _, rfl⟩ (hd _) rfl rfl (Nat.le_of_ble_eq_true rfl) ⟨Nat.le_of_ble_eq_true rfl, Nat.le_of_ble_eq_true rfl⟩ dL_law_250 ?_
  refine lj_cmp F dL_law_253 (by decide) ?_
  exact kk _ _ h2
theorem cs_train {x m : Wd} (h : Rel x m) {l : Launch} {g : GG} (hg : OKl g) (a1 : Int32) (a2 : Int32) : ∃ (r : Int32) (x' m' : Wd), CT l g (k_LL, true, m) yX7_train cX7_train 3 (some .int) 1 23 [.ref (gA g 0), .int a1, .int a2] x (some (.int r)) x' ∧ (∀ o, CT l g (k_LL, false, o) yX8_train cX8_train 3 (some .int) 2 46 [.ref (gA g 37), .int a1, .int a2] m (some (.int r)) m') ∧ Rel x' m' := by
  obtain ⟨r, e1, e2⟩ := r_train h a1 a2
  exact ⟨r, x, m, ct_Nt_train (g := g) (σ := (k_LL, true, m)) hg rfl k_all x a1 a2 e1, fun o => ct_Mo_train (g := g) (σ := (k_LL, false, o)) hg rfl k_all m a1 a2 e2, h⟩
theorem lw_c_train {K : CtxL} {x m : Wd} {i : Int32} {j : Nat} (F : ljF K) (h : Rel x m) (hi : i = nI j) (hj : j + 3 < kL K) (kk : ∀ x' m', Rel x' m' → ljJ K x' m' i 768 []) : ljJ K x m i 258 [] := by
  obtain ⟨r, x', m', hc, hd, h2⟩ := cs_train h (l := k_lch K) (g := kg K) (lj_ok F) (kx K (j + 1)) (kx K (j + 2))
  refine lj_a1 F dL_law_258 ?_
  refine lj_arg F hi (n := 1) (by omega) dL_law_259 dL_law_260 dL_law_261 (by decide) dL_law_262 dL_law_263 ?_
  refine lj_arg F hi (n := 2) (by omega) dL_law_264 dL_law_265 dL_law_266 (by decide) dL_law_267 dL_law_268 ?_
  refine lj_callX F cb_X7_train lm_RL_33 ⟨_, _, rfl⟩ hc rfl rfl (Nat.le_of_ble_eq_true rfl) ⟨Nat.le_of_ble_eq_true rfl, Nat.le_of_ble_eq_true rfl⟩ dL_law_269 ?_
  refine lj_a2 F dL_law_272 ?_
  refine lj_arg F hi (n := 1) (by omega) dL_law_273 dL_law_274 dL_law_275 (by decide) dL_law_276 dL_law_277 ?_
  refine lj_arg F hi (n := 2) (by omega) dL_law_278 dL_law_279 dL_law_280 (by decide) dL_law_281 dL_law_282 ?_
  refine lj_callM F cb_X8_train lm_RL_37 ⟨_, _, rfl⟩ (hd _) rfl rfl (Nat.le_of_ble_eq_true rfl) ⟨Nat.le_of_ble_eq_true rfl, Nat.le_of_ble_eq_true rfl⟩ dL_law_283 ?_
  refine lj_cmp F dL_law_286 (by decide) ?_
  exact kk _ _ h2
theorem cs_runs {x m : Wd} (h : Rel x m) {l : Launch} {g : GG} (hg : OKl g) (a1 : Int32) (a2 : Int32) : ∃ (r : Int32) (x' m' : Wd), CT l g (k_LL, true, m) yX7_runs cX7_runs 3 (some .int) 4 94 [.ref (gA g 0), .int a1, .int a2] x (some (.int r)) x' ∧ (∀ o, CT l g (k_LL, false, o) yX8_runs cX8_runs 5 (some .int) 1 25 [.ref (gA g 37), .int a1, .int a2] m (some (.int r)) m') ∧ Rel x' m' := by
  obtain ⟨r, e1, e2⟩ := r_runs h a1 a2
  exact ⟨r, x, m, ct_Nt_runs (g := g) (σ := (k_LL, true, m)) hg rfl k_all x a1 a2 e1, fun o => ct_Mo_runs (g := g) (σ := (k_LL, false, o)) hg rfl k_all m a1 a2 e2, h⟩
theorem lw_c_runs {K : CtxL} {x m : Wd} {i : Int32} {j : Nat} (F : ljF K) (h : Rel x m) (hi : i = nI j) (hj : j + 3 < kL K) (kk : ∀ x' m', Rel x' m' → ljJ K x' m' i 768 []) : ljJ K x m i 291 [] := by
  obtain ⟨r, x', m', hc, hd, h2⟩ := cs_runs h (l := k_lch K) (g := kg K) (lj_ok F) (kx K (j + 1)) (kx K (j + 2))
  refine lj_a1 F dL_law_291 ?_
  refine lj_arg F hi (n := 1) (by omega) dL_law_292 dL_law_293 dL_law_294 (by decide) dL_law_295 dL_law_296 ?_
  refine lj_arg F hi (n := 2) (by omega) dL_law_297 dL_law_298 dL_law_299 (by decide) dL_law_300 dL_law_301 ?_
  refine lj_callX F cb_X7_runs lm_RL_38 ⟨_, _, rfl⟩ hc rfl rfl (Nat.le_of_ble_eq_true rfl) ⟨Nat.le_of_ble_eq_true rfl, Nat.le_of_ble_eq_true rfl⟩ dL_law_302 ?_
  refine lj_a2 F dL_law_305 ?_
  refine lj_arg F hi (n := 1) (by omega) dL_law_306 dL_law_307 dL_law_308 (by decide) dL_law_309 dL_law_310 ?_
  refine lj_arg F hi (n := 2) (by omega) dL_law_311 dL_law_312 dL_law_313 (by decide) dL_law_314 dL_law_315 ?_
  refine lj_callM F cb_X8_runs lm_RL_41 ⟨_, _, rfl⟩ (hd _) rfl rfl (Nat.le_of_ble_eq_true rfl) ⟨Nat.le_of_ble_eq_true rfl, Nat.le_of_ble_eq_true rfl⟩ dL_law_316 ?_
  refine lj_cmp F dL_law_319 (by decide) ?_
  exact kk _ _ h2
theorem cs_as {x m : Wd} (h : Rel x m) {l : Launch} {g : GG} (hg : OKl g) (a1 : Int32) (a2 : Int32) : ∃ (r : Int32) (x' m' : Wd), CT l g (k_LL, true, m) yX7_as cX7_as 3 (some .int) 3 65 [.ref (gA g 0), .int a1, .int a2] x (some (.int r)) x' ∧ (∀ o, CT l g (k_LL, false, o) yX8_as cX8_as 5 (some .int) 2 46 [.ref (gA g 37), .int a1, .int a2] m (some (.int r)) m') ∧ Rel x' m' := by
  obtain ⟨r, e1, e2⟩ := r_as h a1 a2
  exact ⟨r, x, m, ct_Nt_as (g := g) (σ := (k_LL, true, m)) hg rfl k_all x a1 a2 e1, fun o => ct_Mo_as (g := g) (σ := (k_LL, false, o)) hg rfl k_all m a1 a2 e2, h⟩
theorem lw_c_as {K : CtxL} {x m : Wd} {i : Int32} {j : Nat} (F : ljF K) (h : Rel x m) (hi : i = nI j) (hj : j + 3 < kL K) (kk : ∀ x' m', Rel x' m' → ljJ K x' m' i 768 []) : ljJ K x m i 324 [] := by
  obtain ⟨r, x', m', hc, hd, h2⟩ := cs_as h (l := k_lch K) (g := kg K) (lj_ok F) (kx K (j + 1)) (kx K (j + 2))
  refine lj_a1 F dL_law_324 ?_
  refine lj_arg F hi (n := 1) (by omega) dL_law_325 dL_law_326 dL_law_327 (by decide) dL_law_328 dL_law_329 ?_
  refine lj_arg F hi (n := 2) (by omega) dL_law_330 dL_law_331 dL_law_332 (by decide) dL_law_333 dL_law_334 ?_
  refine lj_callX F cb_X7_as lm_RL_42 ⟨_, _, rfl⟩ hc rfl rfl (Nat.le_of_ble_eq_true rfl) ⟨Nat.le_of_ble_eq_true rfl, Nat.le_of_ble_eq_true rfl⟩ dL_law_335 ?_
  refine lj_a2 F dL_law_338 ?_
  refine lj_arg F hi (n := 1) (by omega) dL_law_339 dL_law_340 dL_law_341 (by decide) dL_law_342 dL_law_343 ?_
  refine lj_arg F hi (n := 2) (by omega) dL_law_344 dL_law_345 dL_law_346 (by decide) dL_law_347 dL_law_348 ?_
  refine lj_callM F cb_X8_as lm_RL_45 ⟨_, _, rfl⟩ (hd _) rfl rfl (Nat.le_of_ble_eq_true rfl) ⟨Nat.le_of_ble_eq_true rfl, Nat.le_of_ble_eq_true rfl⟩ dL_law_349 ?_
  refine lj_cmp F dL_law_352 (by decide) ?_
  exact kk _ _ h2
theorem cs_ride {x m : Wd} (h : Rel x m) {l : Launch} {g : GG} (hg : OKl g) (a1 : Int32) : ∃ (r : Int32) (x' m' : Wd), CT l g (k_LL, true, m) yX7_ride cX7_ride 2 (some .int) 5 114 [.ref (gA g 0), .int a1] x (some (.int r)) x' ∧ (∀ o, CT l g (k_LL, false, o) yX8_ride cX8_ride 2 (some .int) 3 66 [.ref (gA g 37), .int a1] m (some (.int r)) m') ∧ Rel x' m' := by
  obtain ⟨r, x', m', e1, e2, h2⟩ := r_ride h a1
  exact ⟨r, x', m', ct_Nt_ride (g := g) (σ := (k_LL, true, m)) hg rfl k_all x a1 e1, fun o => ct_Mo_ride (g := g) (σ := (k_LL, false, o)) hg rfl k_all m a1 e2, h2⟩
theorem lw_c_ride {K : CtxL} {x m : Wd} {i : Int32} {j : Nat} (F : ljF K) (h : Rel x m) (hi : i = nI j) (hj : j + 3 < kL K) (kk : ∀ x' m', Rel x' m' → ljJ K x' m' i 768 []) : ljJ K x m i 357 [] := by
  obtain ⟨r, x', m', hc, hd, h2⟩ := cs_ride h (l := k_lch K) (g := kg K) (lj_ok F) (kx K (j + 1))
  refine lj_a1 F dL_law_357 ?_
  refine lj_arg F hi (n := 1) (by omega) dL_law_358 dL_law_359 dL_law_360 (by decide) dL_law_361 dL_law_362 ?_
  refine lj_callX F cb_X7_ride lm_RL_46 ⟨_, _, rfl⟩ hc rfl rfl (Nat.le_of_ble_eq_true rfl) ⟨Nat.le_of_ble_eq_true rfl, Nat.le_of_ble_eq_true rfl⟩ dL_law_363 ?_
  refine lj_a2 F dL_law_366 ?_
  refine lj_arg F hi (n := 1) (by omega) dL_law_367 dL_law_368 dL_law_369 (by decide) dL_law_370 dL_law_371 ?_
  refine lj_callM F cb_X8_ride lm_RL_50 ⟨_, _, rfl⟩ (hd _) rfl rfl (Nat.le_of_ble_eq_true rfl) ⟨Nat.le_of_ble_eq_true rfl, Nat.le_of_ble_eq_true rfl⟩ dL_law_372 ?_
  refine lj_cmp F dL_law_375 (by decide) ?_
  exact kk _ _ h2
theorem cs_send {x m : Wd} (h : Rel x m) {l : Launch} {g : GG} (hg : OKl g) (a1 : Int32) (a2 : Int32) : ∃ (r : Int32) (x' m' : Wd), CT l g (k_LL, true, m) yX7_send cX7_send 3 (some .int) 4 91 [.ref (gA g 0), .int a1, .int a2] x (some (.int r)) x' ∧ (∀ o, CT l g (k_LL, false, o) yX8_send cX8_send 4 (some .int) 2 46 [.ref (gA g 37), .int a1, .int a2] m (some (.int r)) m') ∧ Rel x' m' := by
  obtain ⟨r, x', m', e1, e2, h2⟩ := r_send h a1 a2
  exact ⟨r, x', m', ct_Nt_send (g := g) (σ := (k_LL, true, m)) hg rfl k_all x a1 a2 e1, fun o => ct_Mo_send (g := g) (σ := (k_LL, false, o)) hg rfl k_all m a1 a2 e2, h2⟩
theorem lw_c_send {K : CtxL} {x m : Wd} {i : Int32} {j : Nat} (F : ljF K) (h : Rel x m) (hi : i = nI j) (hj : j + 3 < kL K) (kk : ∀ x' m', Rel x' m' → ljJ K x' m' i 768 []) : ljJ K x m i 380 [] := by
  obtain ⟨r, x', m', hc, hd, h2⟩ := cs_send h (l := k_lch K) (g := kg K) (lj_ok F) (kx K (j + 1)) (kx K (j + 2))
  refine lj_a1 F dL_law_380 ?_
  refine lj_arg F hi (n := 1) (by omega) dL_law_381 dL_law_382 dL_law_383 (by decide) dL_law_384 dL_law_385 ?_
  refine lj_arg F hi (n := 2) (by omega) dL_law_386 dL_law_387 dL_law_388 (by decide) dL_law_389 dL_law_390 ?_
  refine lj_callX F cb_X7_send lm_RL_51 ⟨_, _, rfl⟩ hc rfl rfl (Nat.le_of_ble_eq_true rfl) ⟨Nat.le_of_ble_eq_true rfl, Nat.le_of_ble_eq_true rfl⟩ dL_law_391 ?_
  refine lj_a2 F dL_law_394 ?_
  refine lj_arg F hi (n := 1) (by omega) dL_law_395 dL_law_396 dL_law_397 (by decide) dL_law_398 dL_law_399 ?_
  refine lj_arg F hi (n := 2) (by omega) dL_law_400 dL_law_401 dL_law_402 (by decide) dL_law_403 dL_law_404 ?_
  refine lj_callM F cb_X8_send lm_RL_54 ⟨_, _, rfl⟩ (hd _) rfl rfl (Nat.le_of_ble_eq_true rfl) ⟨Nat.le_of_ble_eq_true rfl, Nat.le_of_ble_eq_true rfl⟩ dL_law_405 ?_
  refine lj_cmp F dL_law_408 (by decide) ?_
  exact kk _ _ h2
theorem cs_noon {x m : Wd} (h : Rel x m) {l : Launch} {g : GG} (hg : OKl g) : ∃ (r : Int32) (x' m' : Wd), CT l g (k_LL, true, m) yX7_noon cX7_noon 1 (some .int) 5 114 [.ref (gA g 0)] x (some (.int r)) x' ∧ (∀ o, CT l g (k_LL, false, o) yX8_noon cX8_noon 4 (some .int) 4 89 [.ref (gA g 37)] m (some (.int r)) m') ∧ Rel x' m' := by
  obtain ⟨r, x', m', e1, e2, h2⟩ := r_noon h
  exact ⟨r, x', m', ct_Nt_noon (g := g) (σ := (k_LL, true, m)) hg rfl k_all x e1, fun o => ct_Mo_noon (g := g) (σ := (k_LL, false, o)) hg rfl k_all m e2, h2⟩
theorem lw_c_noon {K : CtxL} {x m : Wd} {i : Int32} {j : Nat} (F : ljF K) (h : Rel x m) (hi : i = nI j) (hj : j + 3 < kL K) (kk : ∀ x' m', Rel x' m' → ljJ K x' m' i 768 []) : ljJ K x m i 413 [] := by
  obtain ⟨r, x', m', hc, hd, h2⟩ := cs_noon h (l := k_lch K) (g := kg K) (lj_ok F)
  refine lj_a1 F dL_law_413 ?_
  refine lj_callX F cb_X7_noon lm_RL_55 ⟨_, _, rfl⟩ hc rfl rfl (Nat.le_of_ble_eq_true rfl) ⟨Nat.le_of_ble_eq_true rfl, Nat.le_of_ble_eq_true rfl⟩ dL_law_414 ?_
  refine lj_a2 F dL_law_417 ?_
  refine lj_callM F cb_X8_noon lm_RL_58 ⟨_, _, rfl⟩ (hd _) rfl rfl (Nat.le_of_ble_eq_true rfl) ⟨Nat.le_of_ble_eq_true rfl, Nat.le_of_ble_eq_true rfl⟩ dL_law_418 ?_
  refine lj_cmp F dL_law_421 (by decide) ?_
  exact kk _ _ h2
theorem cs_he {x m : Wd} (h : Rel x m) {l : Launch} {g : GG} (hg : OKl g) (a1 : Int32) : ∃ (r : Int32) (x' m' : Wd), CT l g (k_LL, true, m) yX7_he cX7_he 2 (some .int) 5 114 [.ref (gA g 0), .int a1] x (some (.int r)) x' ∧ (∀ o, CT l g (k_LL, false, o) yX8_he cX8_he 2 (some .int) 3 66 [.ref (gA g 37), .int a1] m (some (.int r)) m') ∧ Rel x' m' := by
  obtain ⟨r, e1, e2⟩ := r_he h a1
  exact ⟨r, x, m, ct_Nt_he (g := g) (σ := (k_LL, true, m)) hg rfl k_all x a1 e1, fun o => ct_Mo_he (g := g) (σ := (k_LL, false, o)) hg rfl k_all m a1 e2, h⟩
theorem lw_c_he {K : CtxL} {x m : Wd} {i : Int32} {j : Nat} (F : ljF K) (h : Rel x m) (hi : i = nI j) (hj : j + 3 < kL K) (kk : ∀ x' m', Rel x' m' → ljJ K x' m' i 768 []) : ljJ K x m i 426 [] := by
  obtain ⟨r, x', m', hc, hd, h2⟩ := cs_he h (l := k_lch K) (g := kg K) (lj_ok F) (kx K (j + 1))
  refine lj_a1 F dL_law_426 ?_
  refine lj_arg F hi (n := 1) (by omega) dL_law_427 dL_law_428 dL_law_429 (by decide) dL_law_430 dL_law_431 ?_
  refine lj_callX F cb_X7_he lm_RL_59 ⟨_, _, rfl⟩ hc rfl rfl (Nat.le_of_ble_eq_true rfl) ⟨Nat.le_of_ble_eq_true rfl, Nat.le_of_ble_eq_true rfl⟩ dL_law_432 ?_
  refine lj_a2 F dL_law_435 ?_
  refine lj_arg F hi (n := 1) (by omega) dL_law_436 dL_law_437 dL_law_438 (by decide) dL_law_439 dL_law_440 ?_
  refine lj_callM F cb_X8_he lm_RL_62 ⟨_, _, rfl⟩ (hd _) rfl rfl (Nat.le_of_ble_eq_true rfl) ⟨Nat.le_of_ble_eq_true rfl, Nat.le_of_ble_eq_true rfl⟩ dL_law_441 ?_
  refine lj_cmp F dL_law_444 (by decide) ?_
  exact kk _ _ h2
theorem cs_seeker {x m : Wd} (h : Rel x m) {l : Launch} {g : GG} (hg : OKl g) (a1 : Int32) : ∃ (r : Int32) (x' m' : Wd), CT l g (k_LL, true, m) yX7_seeker cX7_seeker 2 (some .int) 2 42 [.ref (gA g 0), .int a1] x (some (.int r)) x' ∧ (∀ o, CT l g (k_LL, false, o) yX8_seeker cX8_seeker 2 (some .int) 2 45 [.ref (gA g 37), .int a1] m (some (.int r)) m') ∧ Rel x' m' := by
  obtain ⟨r, e1, e2⟩ := r_seeker h a1
  exact ⟨r, x, m, ct_Nt_seeker (g := g) (σ := (k_LL, true, m)) hg rfl k_all x a1 e1, fun o => ct_Mo_seeker (g := g) (σ := (k_LL, false, o)) hg rfl k_all m a1 e2, h⟩
theorem lw_c_seeker {K : CtxL} {x m : Wd} {i : Int32} {j : Nat} (F : ljF K) (h : Rel x m) (hi : i = nI j) (hj : j + 3 < kL K) (kk : ∀ x' m', Rel x' m' → ljJ K x' m' i 768 []) : ljJ K x m i 449 [] := by
  obtain ⟨r, x', m', hc, hd, h2⟩ := cs_seeker h (l := k_lch K) (g := kg K) (lj_ok F) (kx K (j + 1))
  refine lj_a1 F dL_law_449 ?_
  refine lj_arg F hi (n := 1) (by omega) dL_law_450 dL_law_451 dL_law_452 (by decide) dL_law_453 dL_law_454 ?_
  refine lj_callX F cb_X7_seeker lm_RL_63 ⟨_, _, rfl⟩ hc rfl rfl (Nat.le_of_ble_eq_true rfl) ⟨Nat.le_of_ble_eq_true rfl, Nat.le_of_ble_eq_true rfl⟩ dL_law_455 ?_
  refine lj_a2 F dL_law_458 ?_
  refine lj_arg F hi (n := 1) (by omega) dL_law_459 dL_law_460 dL_law_461 (by decide) dL_law_462 dL_law_463 ?_
  refine lj_callM F cb_X8_seeker lm_RL_66 ⟨_, _, rfl⟩ (hd _) rfl rfl (Nat.le_of_ble_eq_true rfl) ⟨Nat.le_of_ble_eq_true rfl, Nat.le_of_ble_eq_true rfl⟩ dL_law_464 ?_
  refine lj_cmp F dL_law_467 (by decide) ?_
  exact kk _ _ h2
theorem cs_may {x m : Wd} (h : Rel x m) {l : Launch} {g : GG} (hg : OKl g) : ∃ (r : Int32) (x' m' : Wd), CT l g (k_LL, true, m) yX7_may cX7_may 1 (some .int) 0 0 [.ref (gA g 0)] x (some (.int r)) x' ∧ (∀ o, CT l g (k_LL, false, o) yX8_may cX8_may 1 (some .int) 0 0 [.ref (gA g 37)] m (some (.int r)) m') ∧ Rel x' m' := by
  have e := (r_may h).1
  exact ⟨Nt_may x, x, m, ct_Nt_may (g := g) (σ := (k_LL, true, m)) hg rfl k_all x, fun o => by rw [e]; exact ct_Mo_may (g := g) (σ := (k_LL, false, o)) hg rfl k_all m, h⟩
theorem lw_c_may {K : CtxL} {x m : Wd} {i : Int32} {j : Nat} (F : ljF K) (h : Rel x m) (hi : i = nI j) (hj : j + 3 < kL K) (kk : ∀ x' m', Rel x' m' → ljJ K x' m' i 768 []) : ljJ K x m i 472 [] := by
  obtain ⟨r, x', m', hc, hd, h2⟩ := cs_may h (l := k_lch K) (g := kg K) (lj_ok F)
  refine lj_a1 F dL_law_472 ?_
  refine lj_callX F cb_X7_may lm_RL_67 ⟨_, _, rfl⟩ hc rfl rfl (Nat.le_of_ble_eq_true rfl) ⟨Nat.le_of_ble_eq_true rfl, Nat.le_of_ble_eq_true rfl⟩ dL_law_473 ?_
  refine lj_a2 F dL_law_476 ?_
  refine lj_callM F cb_X8_may lm_RL_70 ⟨_, _, rfl⟩ (hd _) rfl rfl (Nat.le_of_ble_eq_true rfl) ⟨Nat.le_of_ble_eq_true rfl, Nat.le_of_ble_eq_true rfl⟩ dL_law_477 ?_
  refine lj_cmp F dL_law_480 (by decide) ?_
  exact kk _ _ h2
theorem cs_way {x m : Wd} (h : Rel x m) {l : Launch} {g : GG} (hg : OKl g) : ∃ (r : Int32) (x' m' : Wd), CT l g (k_LL, true, m) yX7_way cX7_way 1 (some .int) 0 0 [.ref (gA g 0)] x (some (.int r)) x' ∧ (∀ o, CT l g (k_LL, false, o) yX8_way cX8_way 1 (some .int) 0 0 [.ref (gA g 37)] m (some (.int r)) m') ∧ Rel x' m' := by
  have e := (r_may h).2.1
  exact ⟨Nt_way x, x, m, ct_Nt_way (g := g) (σ := (k_LL, true, m)) hg rfl k_all x, fun o => by rw [e]; exact ct_Mo_way (g := g) (σ := (k_LL, false, o)) hg rfl k_all m, h⟩
theorem lw_c_way {K : CtxL} {x m : Wd} {i : Int32} {j : Nat} (F : ljF K) (h : Rel x m) (hi : i = nI j) (hj : j + 3 < kL K) (kk : ∀ x' m', Rel x' m' → ljJ K x' m' i 768 []) : ljJ K x m i 485 [] := by
  obtain ⟨r, x', m', hc, hd, h2⟩ := cs_way h (l := k_lch K) (g := kg K) (lj_ok F)
  refine lj_a1 F dL_law_485 ?_
  refine lj_callX F cb_X7_way lm_RL_71 ⟨_, _, rfl⟩ hc rfl rfl (Nat.le_of_ble_eq_true rfl) ⟨Nat.le_of_ble_eq_true rfl, Nat.le_of_ble_eq_true rfl⟩ dL_law_486 ?_
  refine lj_a2 F dL_law_489 ?_
  refine lj_callM F cb_X8_way lm_RL_74 ⟨_, _, rfl⟩ (hd _) rfl rfl (Nat.le_of_ble_eq_true rfl) ⟨Nat.le_of_ble_eq_true rfl, Nat.le_of_ble_eq_true rfl⟩ dL_law_490 ?_
  refine lj_cmp F dL_law_493 (by decide) ?_
  exact kk _ _ h2
theorem cs_next {x m : Wd} (h : Rel x m) {l : Launch} {g : GG} (hg : OKl g) : ∃ (r : Int32) (x' m' : Wd), CT l g (k_LL, true, m) yX7_next cX7_next 1 (some .int) 4 93 [.ref (gA g 0)] x (some (.int r)) x' ∧ (∀ o, CT l g (k_LL, false, o) yX8_next cX8_next 1 (some .int) 4 89 [.ref (gA g 37)] m (some (.int r)) m') ∧ Rel x' m' := by
  obtain ⟨r, m', e1, e2, h2⟩ := r_next h
  exact ⟨r, x, m', ct_Nt_next (g := g) (σ := (k_LL, true, m)) hg rfl k_all x e1, fun o => ct_Mo_next (g := g) (σ := (k_LL, false, o)) hg rfl k_all m e2, h2⟩
theorem lw_c_next {K : CtxL} {x m : Wd} {i : Int32} {j : Nat} (F : ljF K) (h : Rel x m) (hi : i = nI j) (hj : j + 3 < kL K) (kk : ∀ x' m', Rel x' m' → ljJ K x' m' i 768 []) : ljJ K x m i 498 [] := by
  obtain ⟨r, x', m', hc, hd, h2⟩ := cs_next h (l := k_lch K) (g := kg K) (lj_ok F)
  refine lj_a1 F dL_law_498 ?_
  refine lj_callX F cb_X7_next lm_RL_75 ⟨_, _, rfl⟩ hc rfl rfl (Nat.le_of_ble_eq_true rfl) ⟨Nat.le_of_ble_eq_true rfl, Nat.le_of_ble_eq_true rfl⟩ dL_law_499 ?_
  refine lj_a2 F dL_law_502 ?_
  refine lj_callM F cb_X8_next lm_RL_78 ⟨_, _, rfl⟩ (hd _) rfl rfl (Nat.le_of_ble_eq_true rfl) ⟨Nat.le_of_ble_eq_true rfl, Nat.le_of_ble_eq_true rfl⟩ dL_law_503 ?_
  refine lj_cmp F dL_law_506 (by decide) ?_
  exact kk _ _ h2
theorem cs_letter {x m : Wd} (h : Rel x m) {l : Launch} {g : GG} (hg : OKl g) : ∃ (r : Int32) (x' m' : Wd), CT l g (k_LL, true, m) yX7_letter cX7_letter 1 (some .int) 0 0 [.ref (gA g 0)] x (some (.int r)) x' ∧ (∀ o, CT l g (k_LL, false, o) yX8_letter cX8_letter 1 (some .int) 0 0 [.ref (gA g 37)] m (some (.int r)) m') ∧ Rel x' m' := by
  have e := (r_may h).2.2
  exact ⟨Nt_letter x, x, m, ct_Nt_letter (g := g) (σ := (k_LL, true, m)) hg rfl k_all x, fun o => by rw [e]; exact ct_Mo_letter (g := g) (σ := (k_LL, false, o)) hg rfl k_all m, h⟩
theorem lw_c_letter {K : CtxL} {x m : Wd} {i : Int32} {j : Nat} (F : ljF K) (h : Rel x m) (hi : i = nI j) (hj : j + 3 < kL K) (kk : ∀ x' m', Rel x' m' → ljJ K x' m' i 768 []) : ljJ K x m i 511 [] := by
  obtain ⟨r, x', m', hc, hd, h2⟩ := cs_letter h (l := k_lch K) (g := kg K) (lj_ok F)
  refine lj_a1 F dL_law_511 ?_
  refine lj_callX F cb_X7_letter lm_RL_79 ⟨_, _, rfl⟩ hc rfl rfl (Nat.le_of_ble_eq_true rfl) ⟨Nat.le_of_ble_eq_true rfl, Nat.le_of_ble_eq_true rfl⟩ dL_law_512 ?_
  refine lj_a2 F dL_law_515 ?_
  refine lj_callM F cb_X8_letter lm_RL_82 ⟨_, _, rfl⟩ (hd _) rfl rfl (Nat.le_of_ble_eq_true rfl) ⟨Nat.le_of_ble_eq_true rfl, Nat.le_of_ble_eq_true rfl⟩ dL_law_516 ?_
  refine lj_cmp F dL_law_519 (by decide) ?_
  exact kk _ _ h2
theorem cs_shut {x m : Wd} (h : Rel x m) {l : Launch} {g : GG} (hg : OKl g) (a1 : Int32) : ∃ (r : Int32) (x' m' : Wd), CT l g (k_LL, true, m) yX7_shut cX7_shut 3 (some .int) 5 120 [.ref (gA g 0), .int a1] x (some (.int r)) x' ∧ (∀ o, CT l g (k_LL, false, o) yX8_shut cX8_shut 9 (some .int) 4 89 [.ref (gA g 37), .int a1] m (some (.int r)) m') ∧ Rel x' m' := by
  obtain ⟨r, x', m', e1, e2, h2⟩ := r_shut h a1
  exact ⟨r, x', m', ct_Nt_shut (g := g) (σ := (k_LL, true, m)) hg rfl k_all x a1 e1, fun o => ct_Mo_shut (g := g) (σ := (k_LL, false, o)) hg rfl k_all m a1 e2, h2⟩
theorem lw_c_shut {K : CtxL} {x m : Wd} {i : Int32} {j : Nat} (F : ljF K) (h : Rel x m) (hi : i = nI j) (hj : j + 3 < kL K) (kk : ∀ x' m', Rel x' m' → ljJ K x' m' i 768 []) : ljJ K x m i 524 [] := by
  obtain ⟨r, x', m', hc, hd, h2⟩ := cs_shut h (l := k_lch K) (g := kg K) (lj_ok F) (kx K (j + 1))
  refine lj_a1 F dL_law_524 ?_
  refine lj_arg F hi (n := 1) (by omega) dL_law_525 dL_law_526 dL_law_527 (by decide) dL_law_528 dL_law_529 ?_
  refine lj_callX F cb_X7_shut lm_RL_83 ⟨_, _, rfl⟩ hc rfl rfl (Nat.le_of_ble_eq_true rfl) ⟨Nat.le_of_ble_eq_true rfl, Nat.le_of_ble_eq_true rfl⟩ dL_law_530 ?_
  refine lj_a2 F dL_law_533 ?_
  refine lj_arg F hi (n := 1) (by omega) dL_law_534 dL_law_535 dL_law_536 (by decide) dL_law_537 dL_law_538 ?_
  refine lj_callM F cb_X8_shut lm_RL_86 ⟨_, _, rfl⟩ (hd _) rfl rfl (Nat.le_of_ble_eq_true rfl) ⟨Nat.le_of_ble_eq_true rfl, Nat.le_of_ble_eq_true rfl⟩ dL_law_539 ?_
  refine lj_cmp F dL_law_542 (by decide) ?_
  exact kk _ _ h2
theorem cs_hides {x m : Wd} (h : Rel x m) {l : Launch} {g : GG} (hg : OKl g) (a1 : Int32) : ∃ (r : Int32) (x' m' : Wd), CT l g (k_LL, true, m) yX7_hides cX7_hides 2 (some .int) 6 137 [.ref (gA g 0), .int a1] x (some (.int r)) x' ∧ (∀ o, CT l g (k_LL, false, o) yX8_hides cX8_hides 6 (some .int) 3 66 [.ref (gA g 37), .int a1] m (some (.int r)) m') ∧ Rel x' m' := by
  obtain ⟨r, x', m', e1, e2, h2⟩ := r_hides h a1
  exact ⟨r, x', m', ct_Nt_hides (g := g) (σ := (k_LL, true, m)) hg rfl k_all x a1 e1, fun o => ct_Mo_hides (g := g) (σ := (k_LL, false, o)) hg rfl k_all m a1 e2, h2⟩
theorem lw_c_hides {K : CtxL} {x m : Wd} {i : Int32} {j : Nat} (F : ljF K) (h : Rel x m) (hi : i = nI j) (hj : j + 3 < kL K) (kk : ∀ x' m', Rel x' m' → ljJ K x' m' i 768 []) : ljJ K x m i 547 [] := by
  obtain ⟨r, x', m', hc, hd, h2⟩ := cs_hides h (l := k_lch K) (g := kg K) (lj_ok F) (kx K (j + 1))
  refine lj_a1 F dL_law_547 ?_
  refine lj_arg F hi (n := 1) (by omega) dL_law_548 dL_law_549 dL_law_550 (by decide) dL_law_551 dL_law_552 ?_
  refine lj_callX F cb_X7_hides lm_RL_87 ⟨_, _, rfl⟩ hc rfl rfl (Nat.le_of_ble_eq_true rfl) ⟨Nat.le_of_ble_eq_true rfl, Nat.le_of_ble_eq_true rfl⟩ dL_law_553 ?_
  refine lj_a2 F dL_law_556 ?_
  refine lj_arg F hi (n := 1) (by omega) dL_law_557 dL_law_558 dL_law_559 (by decide) dL_law_560 dL_law_561 ?_
  refine lj_callM F cb_X8_hides lm_RL_90 ⟨_, _, rfl⟩ (hd _) rfl rfl (Nat.le_of_ble_eq_true rfl) ⟨Nat.le_of_ble_eq_true rfl, Nat.le_of_ble_eq_true rfl⟩ dL_law_562 ?_
  refine lj_cmp F dL_law_565 (by decide) ?_
  exact kk _ _ h2
theorem cs_chase {x m : Wd} (h : Rel x m) {l : Launch} {g : GG} (hg : OKl g) : ∃ (r : Int32) (x' m' : Wd), CT l g (k_LL, true, m) yX7_chase cX7_chase 1 (some .int) 4 95 [.ref (gA g 0)] x (some (.int r)) x' ∧ (∀ o, CT l g (k_LL, false, o) yX8_chase cX8_chase 2 (some .int) 5 127 [.ref (gA g 37)] m (some (.int r)) m') ∧ Rel x' m' := by
  obtain ⟨r, x', m', e1, e2, h2⟩ := r_chase h
  exact ⟨r, x', m', ct_Nt_chase (g := g) (σ := (k_LL, true, m)) hg rfl k_all x e1, fun o => ct_Mo_chase (g := g) (σ := (k_LL, false, o)) hg rfl k_all m e2, h2⟩
theorem lw_c_chase {K : CtxL} {x m : Wd} {i : Int32} {j : Nat} (F : ljF K) (h : Rel x m) (hi : i = nI j) (hj : j + 3 < kL K) (kk : ∀ x' m', Rel x' m' → ljJ K x' m' i 768 []) : ljJ K x m i 570 [] := by
  obtain ⟨r, x', m', hc, hd, h2⟩ := cs_chase h (l := k_lch K) (g := kg K) (lj_ok F)
  refine lj_a1 F dL_law_570 ?_
  refine lj_callX F cb_X7_chase lm_RL_91 ⟨_, _, rfl⟩ hc rfl rfl (Nat.le_of_ble_eq_true rfl) ⟨Nat.le_of_ble_eq_true rfl, Nat.le_of_ble_eq_true rfl⟩ dL_law_571 ?_
  refine lj_a2 F dL_law_574 ?_
  refine lj_callM F cb_X8_chase lm_RL_94 ⟨_, _, rfl⟩ (hd _) rfl rfl (Nat.le_of_ble_eq_true rfl) ⟨Nat.le_of_ble_eq_true rfl, Nat.le_of_ble_eq_true rfl⟩ dL_law_575 ?_
  refine lj_cmp F dL_law_578 (by decide) ?_
  exact kk _ _ h2
theorem cs_closed {x m : Wd} (h : Rel x m) {l : Launch} {g : GG} (hg : OKl g) (a1 : Int32) : ∃ (r : Int32) (x' m' : Wd), CT l g (k_LL, true, m) yX7_closed cX7_closed 2 (some .int) 5 117 [.ref (gA g 0), .int a1] x (some (.int r)) x' ∧ (∀ o, CT l g (k_LL, false, o) yX8_closed cX8_closed 6 (some .int) 5 127 [.ref (gA g 37), .int a1] m (some (.int r)) m') ∧ Rel x' m' := by
  obtain ⟨r, x', m', e1, e2, h2⟩ := r_closed h a1
  exact ⟨r, x', m', ct_Nt_closed (g := g) (σ := (k_LL, true, m)) hg rfl k_all x a1 e1, fun o => ct_Mo_closed (g := g) (σ := (k_LL, false, o)) hg rfl k_all m a1 e2, h2⟩
theorem lw_c_closed {K : CtxL} {x m : Wd} {i : Int32} {j : Nat} (F : ljF K) (h : Rel x m) (hi : i = nI j) (hj : j + 3 < kL K) (kk : ∀ x' m', Rel x' m' → ljJ K x' m' i 768 []) : ljJ K x m i 583 [] := by
  obtain ⟨r, x', m', hc, hd, h2⟩ := cs_closed h (l := k_lch K) (g := kg K) (lj_ok F) (kx K (j + 1))
  refine lj_a1 F dL_law_583 ?_
  refine lj_arg F hi (n := 1) (by omega) dL_law_584 dL_law_585 dL_law_586 (by decide) dL_law_587 dL_law_588 ?_
  refine lj_callX F cb_X7_closed lm_RL_95 ⟨_, _, rfl⟩ hc rfl rfl (Nat.le_of_ble_eq_true rfl) ⟨Nat.le_of_ble_eq_true rfl, Nat.le_of_ble_eq_true rfl⟩ dL_law_589 ?_
  refine lj_a2 F dL_law_592 ?_
  refine lj_arg F hi (n := 1) (by omega) dL_law_593 dL_law_594 dL_law_595 (by decide) dL_law_596 dL_law_597 ?_
  refine lj_callM F cb_X8_closed lm_RL_98 ⟨_, _, rfl⟩ (hd _) rfl rfl (Nat.le_of_ble_eq_true rfl) ⟨Nat.le_of_ble_eq_true rfl, Nat.le_of_ble_eq_true rfl⟩ dL_law_598 ?_
  refine lj_cmp F dL_law_601 (by decide) ?_
  exact kk _ _ h2
theorem cs_log {x m : Wd} (h : Rel x m) {l : Launch} {g : GG} (hg : OKl g) (a1 : Int32) : ∃ (r : Int32) (x' m' : Wd), CT l g (k_LL, true, m) yX7_log cX7_log 2 (some .int) 2 43 [.ref (gA g 0), .int a1] x (some (.int r)) x' ∧ (∀ o, CT l g (k_LL, false, o) yX8_log cX8_log 2 (some .int) 2 46 [.ref (gA g 37), .int a1] m (some (.int r)) m') ∧ Rel x' m' := by
  obtain ⟨r, x', m', e1, e2, h2⟩ := r_log h a1
  exact ⟨r, x', m', ct_Nt_log (g := g) (σ := (k_LL, true, m)) hg rfl k_all x a1 e1, fun o => ct_Mo_log (g := g) (σ := (k_LL, false, o)) hg rfl k_all m a1 e2, h2⟩
theorem lw_c_log {K : CtxL} {x m : Wd} {i : Int32} {j : Nat} (F : ljF K) (h : Rel x m) (hi : i = nI j) (hj : j + 3 < kL K) (kk : ∀ x' m', Rel x' m' → ljJ K x' m' i 768 []) : ljJ K x m i 606 [] := by
  obtain ⟨r, x', m', hc, hd, h2⟩ := cs_log h (l := k_lch K) (g := kg K) (lj_ok F) (kx K (j + 1))
  refine lj_a1 F dL_law_606 ?_
  refine lj_arg F hi (n := 1) (by omega) dL_law_607 dL_law_608 dL_law_609 (by decide) dL_law_610 dL_law_611 ?_
  refine lj_callX F cb_X7_log lm_RL_99 ⟨_, _, rfl⟩ hc rfl rfl (Nat.le_of_ble_eq_true rfl) ⟨Nat.le_of_ble_eq_true rfl, Nat.le_of_ble_eq_true rfl⟩ dL_law_612 ?_
  refine lj_a2 F dL_law_615 ?_
  refine lj_arg F hi (n := 1) (by omega) dL_law_616 dL_law_617 dL_law_618 (by decide) dL_law_619 dL_law_620 ?_
  refine lj_callM F cb_X8_log lm_RL_102 ⟨_, _, rfl⟩ (hd _) rfl rfl (Nat.le_of_ble_eq_true rfl) ⟨Nat.le_of_ble_eq_true rfl, Nat.le_of_ble_eq_true rfl⟩ dL_law_621 ?_
  refine lj_cmp F dL_law_624 (by decide) ?_
  exact kk _ _ h2
theorem cs_burn {x m : Wd} (h : Rel x m) {l : Launch} {g : GG} (hg : OKl g) : ∃ (r : Int32) (x' m' : Wd), CT l g (k_LL, true, m) yX7_burn cX7_burn 2 (some .int) 0 0 [.ref (gA g 0)] x (some (.int r)) x' ∧ (∀ o, CT l g (k_LL, false, o) yX8_burn cX8_burn 2 (some .int) 0 0 [.ref (gA g 37)] m (some (.int r)) m') ∧ Rel x' m' := by
  obtain ⟨e, h2⟩ := r_burn h
  exact ⟨(Nt_burn x).1, (Nt_burn x).2, (Mo_burn m).2, ct_Nt_burn (g := g) (σ := (k_LL, true, m)) hg rfl k_all x, fun o => by rw [e]; exact ct_Mo_burn (g := g) (σ := (k_LL, false, o)) hg rfl k_all m, h2⟩
theorem lw_c_burn {K : CtxL} {x m : Wd} {i : Int32} {j : Nat} (F : ljF K) (h : Rel x m) (hi : i = nI j) (hj : j + 3 < kL K) (kk : ∀ x' m', Rel x' m' → ljJ K x' m' i 768 []) : ljJ K x m i 629 [] := by
  obtain ⟨r, x', m', hc, hd, h2⟩ := cs_burn h (l := k_lch K) (g := kg K) (lj_ok F)
  refine lj_a1 F dL_law_629 ?_
  refine lj_callX F cb_X7_burn lm_RL_103 ⟨_, _, rfl⟩ hc rfl rfl (Nat.le_of_ble_eq_true rfl) ⟨Nat.le_of_ble_eq_true rfl, Nat.le_of_ble_eq_true rfl⟩ dL_law_630 ?_
  refine lj_a2 F dL_law_633 ?_
  refine lj_callM F cb_X8_burn lm_RL_106 ⟨_, _, rfl⟩ (hd _) rfl rfl (Nat.le_of_ble_eq_true rfl) ⟨Nat.le_of_ble_eq_true rfl, Nat.le_of_ble_eq_true rfl⟩ dL_law_634 ?_
  refine lj_cmp F dL_law_637 (by decide) ?_
  exact kk _ _ h2
theorem cs_judge {x m : Wd} (h : Rel x m) {l : Launch} {g : GG} (hg : OKl g) : ∃ (r : Int32) (x' m' : Wd), CT l g (k_LL, true, m) yX7_judge cX7_judge 1 (some .int) 4 93 [.ref (gA g 0)] x (some (.int r)) x' ∧ (∀ o, CT l g (k_LL, false, o) yX8_judge cX8_judge 6 (some .int) 1 23 [.ref (gA g 37)] m (some (.int r)) m') ∧ Rel x' m' := by
  obtain ⟨r, x', m', e1, e2, h2⟩ := r_judge h
  exact ⟨r, x', m', ct_Nt_judge (g := g) (σ := (k_LL, true, m)) hg rfl k_all x e1, fun o => ct_Mo_judge (g := g) (σ := (k_LL, false, o)) hg rfl k_all m e2, h2⟩
theorem lw_c_judge {K : CtxL} {x m : Wd} {i : Int32} {j : Nat} (F : ljF K) (h : Rel x m) (hi : i = nI j) (hj : j + 3 < kL K) (kk : ∀ x' m', Rel x' m' → ljJ K x' m' i 768 []) : ljJ K x m i 642 [] := by
  obtain ⟨r, x', m', hc, hd, h2⟩ := cs_judge h (l := k_lch K) (g := kg K) (lj_ok F)
  refine lj_a1 F dL_law_642 ?_
  refine lj_callX F cb_X7_judge lm_RL_107 ⟨_, _, rfl⟩ hc rfl rfl (Nat.le_of_ble_eq_true rfl) ⟨Nat.le_of_ble_eq_true rfl, Nat.le_of_ble_eq_true rfl⟩ dL_law_643 ?_
  refine lj_a2 F dL_law_646 ?_
  refine lj_callM F cb_X8_judge lm_RL_110 ⟨_, _, rfl⟩ (hd _) rfl rfl (Nat.le_of_ble_eq_true rfl) ⟨Nat.le_of_ble_eq_true rfl, Nat.le_of_ble_eq_true rfl⟩ dL_law_647 ?_
  refine lj_cmp F dL_law_650 (by decide) ?_
  exact kk _ _ h2
theorem cs_late {x m : Wd} (h : Rel x m) {l : Launch} {g : GG} (hg : OKl g) (a1 : Int32) (a2 : Int32) (a3 : Int32) : ∃ (r : Int64) (x' m' : Wd), CT l g (k_LL, true, m) yX7_late cX7_late 10 (some .long) 4 96 [.ref (gA g 0), .int a1, .int a2, .int a3] x (some (.long r)) x' ∧ (∀ o, CT l g (k_LL, false, o) yX8_late cX8_late 12 (some .long) 2 48 [.ref (gA g 37), .int a1, .int a2, .int a3] m (some (.long r)) m') ∧ Rel x' m' := by
  obtain ⟨r, x', m', e1, e2, h2⟩ := r_late h a1 a2 a3
  exact ⟨r, x', m', ct_Nt_late (g := g) (σ := (k_LL, true, m)) hg rfl k_all x a1 a2 a3 e1, fun o => ct_Mo_late (g := g) (σ := (k_LL, false, o)) hg rfl k_all m a1 a2 a3 e2, h2⟩
theorem lw_c_late {K : CtxL} {x m : Wd} {i : Int32} {j : Nat} (F : ljF K) (h : Rel x m) (hi : i = nI j) (hj : j + 3 < kL K) (kk : ∀ x' m', Rel x' m' → ljJ K x' m' i 768 []) : ljJ K x m i 655 [] := by
  obtain ⟨r, x', m', hc, hd, h2⟩ := cs_late h (l := k_lch K) (g := kg K) (lj_ok F) (kx K (j + 1)) (kx K (j + 2)) (kx K (j + 3))
  refine lj_a1 F dL_law_655 ?_
  refine lj_arg F hi (n := 1) (by omega) dL_law_656 dL_law_657 dL_law_658 (by decide) dL_law_659 dL_law_660 ?_
  refine lj_arg F hi (n := 2) (by omega) dL_law_661 dL_law_662 dL_law_663 (by decide) dL_law_664 dL_law_665 ?_
  refine lj_arg F hi (n := 3) (by omega) dL_law_666 dL_law_667 dL_law_668 (by decide) dL_law_669 dL_law_670 ?_
  refine lj_callX F cb_X7_late lm_RL_111 ⟨_, _, rfl⟩ hc rfl rfl (Nat.le_of_ble_eq_true rfl) ⟨Nat.le_of_ble_eq_true rfl, Nat.le_of_ble_eq_true rfl⟩ dL_law_671 ?_
  refine lj_a2 F dL_law_674 ?_
  refine lj_arg F hi (n := 1) (by omega) dL_law_675 dL_law_676 dL_law_677 (by decide) dL_law_678 dL_law_679 ?_
  refine lj_arg F hi (n := 2) (by omega) dL_law_680 dL_law_681 dL_law_682 (by decide) dL_law_683 dL_law_684 ?_
  refine lj_arg F hi (n := 3) (by omega) dL_law_685 dL_law_686 dL_law_687 (by decide) dL_law_688 dL_law_689 ?_
  refine lj_callM F cb_X8_late lm_RL_115 ⟨_, _, rfl⟩ (hd _) rfl rfl (Nat.le_of_ble_eq_true rfl) ⟨Nat.le_of_ble_eq_true rfl, Nat.le_of_ble_eq_true rfl⟩ dL_law_690 ?_
  refine lj_lcmp F dL_law_693 dL_law_694 (by decide) ?_
  exact kk _ _ h2
theorem cs_keep {x m : Wd} (h : Rel x m) {l : Launch} {g : GG} (hg : OKl g) (a1 : Int32) : ∃ (r : Int32) (x' m' : Wd), CT l g (k_LL, true, m) yX7_keep cX7_keep 2 (some .int) 2 39 [.ref (gA g 0), .int a1] x (some (.int r)) x' ∧ (∀ o, CT l g (k_LL, false, o) yX8_keep cX8_keep 2 (some .int) 1 25 [.ref (gA g 37), .int a1] m (some (.int r)) m') ∧ Rel x' m' := by
  obtain ⟨r, x', m', e1, e2, h2⟩ := r_keep h a1
  exact ⟨r, x', m', ct_Nt_keep (g := g) (σ := (k_LL, true, m)) hg rfl k_all x a1 e1, fun o => ct_Mo_keep (g := g) (σ := (k_LL, false, o)) hg rfl k_all m a1 e2, h2⟩
theorem lw_c_keep {K : CtxL} {x m : Wd} {i : Int32} {j : Nat} (F : ljF K) (h : Rel x m) (hi : i = nI j) (hj : j + 3 < kL K) (kk : ∀ x' m', Rel x' m' → ljJ K x' m' i 768 []) : ljJ K x m i 699 [] := by
  obtain ⟨r, x', m', hc, hd, h2⟩ := cs_keep h (l := k_lch K) (g := kg K) (lj_ok F) (kx K (j + 1))
  refine lj_a1 F dL_law_699 ?_
  refine lj_arg F hi (n := 1) (by omega) dL_law_700 dL_law_701 dL_law_702 (by decide) dL_law_703 dL_law_704 ?_
  refine lj_callX F cb_X7_keep lm_RL_116 ⟨_, _, rfl⟩ hc rfl rfl (Nat.le_of_ble_eq_true rfl) ⟨Nat.le_of_ble_eq_true rfl, Nat.le_of_ble_eq_true rfl⟩ dL_law_705 ?_
  refine lj_a2 F dL_law_708 ?_
  refine lj_arg F hi (n := 1) (by omega) dL_law_709 dL_law_710 dL_law_711 (by decide) dL_law_712 dL_law_713 ?_
  refine lj_callM F cb_X8_keep lm_RL_119 ⟨_, _, rfl⟩ (hd _) rfl rfl (Nat.le_of_ble_eq_true rfl) ⟨Nat.le_of_ble_eq_true rfl, Nat.le_of_ble_eq_true rfl⟩ dL_law_714 ?_
  refine lj_cmp F dL_law_717 (by decide) ?_
  exact kk _ _ h2
theorem cs_back {x m : Wd} (h : Rel x m) {l : Launch} {g : GG} (hg : OKl g) (a1 : Int32) : ∃ (r : Int32) (x' m' : Wd), CT l g (k_LL, true, m) yX7_back cX7_back 2 (some .int) 2 39 [.ref (gA g 0), .int a1] x (some (.int r)) x' ∧ (∀ o, CT l g (k_LL, false, o) yX8_back cX8_back 2 (some .int) 1 25 [.ref (gA g 37), .int a1] m (some (.int r)) m') ∧ Rel x' m' := by
  obtain ⟨r, x', m', e1, e2, h2⟩ := r_back h a1
  exact ⟨r, x', m', ct_Nt_back (g := g) (σ := (k_LL, true, m)) hg rfl k_all x a1 e1, fun o => ct_Mo_back (g := g) (σ := (k_LL, false, o)) hg rfl k_all m a1 e2, h2⟩
theorem lw_c_back {K : CtxL} {x m : Wd} {i : Int32} {j : Nat} (F : ljF K) (h : Rel x m) (hi : i = nI j) (hj : j + 3 < kL K) (kk : ∀ x' m', Rel x' m' → ljJ K x' m' i 768 []) : ljJ K x m i 722 [] := by
  obtain ⟨r, x', m', hc, hd, h2⟩ := cs_back h (l := k_lch K) (g := kg K) (lj_ok F) (kx K (j + 1))
  refine lj_a1 F dL_law_722 ?_
  refine lj_arg F hi (n := 1) (by omega) dL_law_723 dL_law_724 dL_law_725 (by decide) dL_law_726 dL_law_727 ?_
  refine lj_callX F cb_X7_back lm_RL_120 ⟨_, _, rfl⟩ hc rfl rfl (Nat.le_of_ble_eq_true rfl) ⟨Nat.le_of_ble_eq_true rfl, Nat.le_of_ble_eq_true rfl⟩ dL_law_728 ?_
  refine lj_a2 F dL_law_731 ?_
  refine lj_arg F hi (n := 1) (by omega) dL_law_732 dL_law_733 dL_law_734 (by decide) dL_law_735 dL_law_736 ?_
  refine lj_callM F cb_X8_back lm_RL_123 ⟨_, _, rfl⟩ (hd _) rfl rfl (Nat.le_of_ble_eq_true rfl) ⟨Nat.le_of_ble_eq_true rfl, Nat.le_of_ble_eq_true rfl⟩ dL_law_737 ?_
  refine lj_cmp F dL_law_740 (by decide) ?_
  exact kk _ _ h2
theorem cs_count {x m : Wd} (h : Rel x m) {l : Launch} {g : GG} (hg : OKl g) (a1 : Int32) : ∃ (r : Int32) (x' m' : Wd), CT l g (k_LL, true, m) yX7_count cX7_count 2 (some .int) 1 22 [.ref (gA g 0), .int a1] x (some (.int r)) x' ∧ (∀ o, CT l g (k_LL, false, o) yX8_count cX8_count 2 (some .int) 0 0 [.ref (gA g 37), .int a1] m (some (.int r)) m') ∧ Rel x' m' := by
  exact ⟨Mo_count m a1, x, m, ct_Nt_count (g := g) (σ := (k_LL, true, m)) hg rfl k_all x a1 (r_count h a1), fun o => ct_Mo_count (g := g) (σ := (k_LL, false, o)) hg rfl k_all m a1, h⟩
theorem lw_c_count {K : CtxL} {x m : Wd} {i : Int32} {j : Nat} (F : ljF K) (h : Rel x m) (hi : i = nI j) (hj : j + 3 < kL K) (kk : ∀ x' m', Rel x' m' → ljJ K x' m' i 768 []) : ljJ K x m i 745 [] := by
  obtain ⟨r, x', m', hc, hd, h2⟩ := cs_count h (l := k_lch K) (g := kg K) (lj_ok F) (kx K (j + 1))
  refine lj_a1 F dL_law_745 ?_
  refine lj_arg F hi (n := 1) (by omega) dL_law_746 dL_law_747 dL_law_748 (by decide) dL_law_749 dL_law_750 ?_
  refine lj_callX F cb_X7_count lm_RL_124 ⟨_, _, rfl⟩ hc rfl rfl (Nat.le_of_ble_eq_true rfl) ⟨Nat.le_of_ble_eq_true rfl, Nat.le_of_ble_eq_true rfl⟩ dL_law_751 ?_
  refine lj_a2 F dL_law_754 ?_
  refine lj_arg F hi (n := 1) (by omega) dL_law_755 dL_law_756 dL_law_757 (by decide) dL_law_758 dL_law_759 ?_
  refine lj_callM F cb_X8_count lm_RL_127 ⟨_, _, rfl⟩ (hd _) rfl rfl (Nat.le_of_ble_eq_true rfl) ⟨Nat.le_of_ble_eq_true rfl, Nat.le_of_ble_eq_true rfl⟩ dL_law_760 ?_
  refine lj_cmp F dL_law_763 (by decide) ?_
  exact kk _ _ h2
