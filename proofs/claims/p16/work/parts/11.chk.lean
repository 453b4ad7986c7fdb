theorem an_k_0_0 : an_chkP 12 code false an_c_0_0 = true := by decide +kernel
theorem an_k_0_1 : an_chkP 12 code false an_c_0_1 = true := by decide +kernel
theorem an_k_0_2 : an_chkP 12 code false an_c_0_2 = true := by decide +kernel
theorem an_k_0_3 : an_chkP 12 code false an_c_0_3 = true := by decide +kernel
theorem an_k_0_4 : an_chkP 12 code false an_c_0_4 = true := by decide +kernel
theorem an_k_0_5 : an_chkP 12 code false an_c_0_5 = true := by decide +kernel
theorem an_k_0_6 : an_chkP 12 code false an_c_0_6 = true := by decide +kernel
theorem an_k_0_7 : an_chkP 12 code false an_c_0_7 = true := by decide +kernel
theorem an_k_0 : an_chkM (an_m_0, 12, an_c_0) = true := an_chkM_of (by decide +kernel) (an_app an_k_0_0 (an_app an_k_0_1 (an_app an_k_0_2 (an_app an_k_0_3 (an_app an_k_0_4 (an_app an_k_0_5 (an_app an_k_0_6 (an_k_0_7))))))))
theorem an_k_1_0 : an_chkP 0 prog_1_method_1_code true an_c_1_0 = true := by decide +kernel
theorem an_k_1_1 : an_chkP 0 prog_1_method_1_code true an_c_1_1 = true := by decide +kernel
theorem an_k_1 : an_chkM (an_m_1, 0, an_c_1) = true := an_chkM_of (by decide +kernel) (an_app an_k_1_0 (an_k_1_1))
theorem an_k_2 : an_chkM (an_m_2, 1, an_c_2) = true := by decide +kernel
theorem an_k_3 : an_chkM (an_m_3, 2, an_c_3) = true := by decide +kernel
theorem an_k_4 : an_chkM (an_m_4, 3, an_c_4) = true := by decide +kernel
theorem an_k_5_0 : an_chkP 4 prog_2_method_1_code true an_c_5_0 = true := by decide +kernel
theorem an_k_5_1 : an_chkP 4 prog_2_method_1_code true an_c_5_1 = true := by decide +kernel
theorem an_k_5 : an_chkM (an_m_5, 4, an_c_5) = true := an_chkM_of (by decide +kernel) (an_app an_k_5_0 (an_k_5_1))
theorem an_k_6 : an_chkM (an_m_6, 5, an_c_6) = true := by decide +kernel
theorem an_k_7 : an_chkM (an_m_7, 6, an_c_7) = true := by decide +kernel
theorem an_k_8 : an_chkM (an_m_8, 7, an_c_8) = true := by decide +kernel
theorem an_k_9 : an_chkM (an_m_9, 8, an_c_9) = true := by decide +kernel
theorem an_k_10 : an_chkM (an_m_10, 9, an_c_10) = true := by decide +kernel
theorem an_k_11 : an_chkM (an_m_11, 10, an_c_11) = true := by decide +kernel
theorem an_k_12 : an_chkM (an_m_12, 0, an_c_12) = true := by decide +kernel
theorem an_k_13 : an_chkM (an_m_13, 1, an_c_13) = true := by decide +kernel
theorem an_k_14_0 : an_chkP 0 prog_1_method_3_code false an_c_14_0 = true := by decide +kernel
theorem an_k_14_1 : an_chkP 0 prog_1_method_3_code false an_c_14_1 = true := by decide +kernel
theorem an_k_14 : an_chkM (an_m_14, 0, an_c_14) = true := an_chkM_of (by decide +kernel) (an_app an_k_14_0 (an_k_14_1))
theorem an_k_15 : an_chkM (an_m_15, 1, an_c_15) = true := by decide +kernel
theorem an_k_16_0 : an_chkP 2 prog_8_method_2_code false an_c_16_0 = true := by decide +kernel
theorem an_k_16_1 : an_chkP 2 prog_8_method_2_code false an_c_16_1 = true := by decide +kernel
theorem an_k_16_2 : an_chkP 2 prog_8_method_2_code false an_c_16_2 = true := by decide +kernel
theorem an_k_16 : an_chkM (an_m_16, 2, an_c_16) = true := an_chkM_of (by decide +kernel) (an_app an_k_16_0 (an_app an_k_16_1 (an_k_16_2)))
theorem an_k_17 : an_chkM (an_m_17, 2, an_c_17) = true := by decide +kernel
theorem an_k_18 : an_chkM (an_m_18, 1, an_c_18) = true := by decide +kernel
theorem an_k_19_0 : an_chkP 1 prog_10_method_5_code false an_c_19_0 = true := by decide +kernel
theorem an_k_19_1 : an_chkP 1 prog_10_method_5_code false an_c_19_1 = true := by decide +kernel
theorem an_k_19_2 : an_chkP 1 prog_10_method_5_code false an_c_19_2 = true := by decide +kernel
theorem an_k_19 : an_chkM (an_m_19, 1, an_c_19) = true := an_chkM_of (by decide +kernel) (an_app an_k_19_0 (an_app an_k_19_1 (an_k_19_2)))
theorem an_k_20_0 : an_chkP 1 prog_10_method_8_code false an_c_20_0 = true := by decide +kernel
theorem an_k_20_1 : an_chkP 1 prog_10_method_8_code false an_c_20_1 = true := by decide +kernel
theorem an_k_20 : an_chkM (an_m_20, 1, an_c_20) = true := an_chkM_of (by decide +kernel) (an_app an_k_20_0 (an_k_20_1))
theorem an_k_21_0 : an_chkP 1 prog_10_method_6_code false an_c_21_0 = true := by decide +kernel
theorem an_k_21_1 : an_chkP 1 prog_10_method_6_code false an_c_21_1 = true := by decide +kernel
theorem an_k_21 : an_chkM (an_m_21, 1, an_c_21) = true := an_chkM_of (by decide +kernel) (an_app an_k_21_0 (an_k_21_1))
theorem an_k_22 : an_chkM (an_m_22, 1, an_c_22) = true := by decide +kernel
theorem an_k_23 : an_chkM (an_m_23, 2, an_c_23) = true := by decide +kernel
theorem an_k_24 : an_chkM (an_m_24, 2, an_c_24) = true := by decide +kernel
theorem an_k_25 : an_chkM (an_m_25, 2, an_c_25) = true := by decide +kernel
theorem an_k_26 : an_chkM (an_m_26, 2, an_c_26) = true := by decide +kernel
theorem an_k_27_0 : an_chkP 2 prog_8_method_10_code false an_c_27_0 = true := by decide +kernel
theorem an_k_27_1 : an_chkP 2 prog_8_method_10_code false an_c_27_1 = true := by decide +kernel
theorem an_k_27 : an_chkM (an_m_27, 2, an_c_27) = true := an_chkM_of (by decide +kernel) (an_app an_k_27_0 (an_k_27_1))
theorem an_k_28 : an_chkM (an_m_28, 2, an_c_28) = true := by decide +kernel
theorem an_k_29 : an_chkM (an_m_29, 8, an_c_29) = true := by decide +kernel
theorem an_k_30_0 : an_chkP 2 prog_8_method_13_code false an_c_30_0 = true := by decide +kernel
theorem an_k_30_1 : an_chkP 2 prog_8_method_13_code false an_c_30_1 = true := by decide +kernel
theorem an_k_30_2 : an_chkP 2 prog_8_method_13_code false an_c_30_2 = true := by decide +kernel
theorem an_k_30 : an_chkM (an_m_30, 2, an_c_30) = true := an_chkM_of (by decide +kernel) (an_app an_k_30_0 (an_app an_k_30_1 (an_k_30_2)))
theorem an_k_31_0 : an_chkP 2 prog_8_method_14_code false an_c_31_0 = true := by decide +kernel
theorem an_k_31_1 : an_chkP 2 prog_8_method_14_code false an_c_31_1 = true := by decide +kernel
theorem an_k_31 : an_chkM (an_m_31, 2, an_c_31) = true := an_chkM_of (by decide +kernel) (an_app an_k_31_0 (an_k_31_1))
theorem an_k_32 : an_chkM (an_m_32, 10, an_c_32) = true := by decide +kernel
theorem an_k_33 : an_chkM (an_m_33, 8, an_c_33) = true := by decide +kernel
theorem an_k_34 : an_chkM (an_m_34, 8, an_c_34) = true := by decide +kernel
theorem an_k_35 : an_chkM (an_m_35, 8, an_c_35) = true := by decide +kernel
theorem an_k_36 : an_chkM (an_m_36, 2, an_c_36) = true := by decide +kernel
theorem an_k_37 : an_chkM (an_m_37, 2, an_c_37) = true := by decide +kernel
theorem an_k_38 : an_chkM (an_m_38, 2, an_c_38) = true := by decide +kernel
theorem an_k_39 : an_chkM (an_m_39, 8, an_c_39) = true := by decide +kernel
theorem an_k_40 : an_chkM (an_m_40, 10, an_c_40) = true := by decide +kernel
theorem an_k_41_0 : an_chkP 2 prog_8_method_17_code false an_c_41_0 = true := by decide +kernel
theorem an_k_41_1 : an_chkP 2 prog_8_method_17_code false an_c_41_1 = true := by decide +kernel
theorem an_k_41 : an_chkM (an_m_41, 2, an_c_41) = true := an_chkM_of (by decide +kernel) (an_app an_k_41_0 (an_k_41_1))
theorem an_k_42 : an_chkM (an_m_42, 3, an_c_42) = true := by decide +kernel
theorem an_k_43_0 : an_chkP 3 prog_5_method_3_code false an_c_43_0 = true := by decide +kernel
theorem an_k_43_1 : an_chkP 3 prog_5_method_3_code false an_c_43_1 = true := by decide +kernel
theorem an_k_43_2 : an_chkP 3 prog_5_method_3_code false an_c_43_2 = true := by decide +kernel
theorem an_k_43 : an_chkM (an_m_43, 3, an_c_43) = true := an_chkM_of (by decide +kernel) (an_app an_k_43_0 (an_app an_k_43_1 (an_k_43_2)))
theorem an_k_44 : an_chkM (an_m_44, 3, an_c_44) = true := by decide +kernel
theorem an_k_45 : an_chkM (an_m_45, 3, an_c_45) = true := by decide +kernel
theorem an_k_46_0 : an_chkP 3 prog_5_method_4_code false an_c_46_0 = true := by decide +kernel
theorem an_k_46_1 : an_chkP 3 prog_5_method_4_code false an_c_46_1 = true := by decide +kernel
theorem an_k_46 : an_chkM (an_m_46, 3, an_c_46) = true := an_chkM_of (by decide +kernel) (an_app an_k_46_0 (an_k_46_1))
theorem an_k_47 : an_chkM (an_m_47, 5, an_c_47) = true := by decide +kernel
theorem an_k_48_0 : an_chkP 5 prog_9_method_3_code false an_c_48_0 = true := by decide +kernel
theorem an_k_48_1 : an_chkP 5 prog_9_method_3_code false an_c_48_1 = true := by decide +kernel
theorem an_k_48_2 : an_chkP 5 prog_9_method_3_code false an_c_48_2 = true := by decide +kernel
theorem an_k_48 : an_chkM (an_m_48, 5, an_c_48) = true := an_chkM_of (by decide +kernel) (an_app an_k_48_0 (an_app an_k_48_1 (an_k_48_2)))
theorem an_k_49_0 : an_chkP 6 prog_7_method_2_code false an_c_49_0 = true := by decide +kernel
theorem an_k_49_1 : an_chkP 6 prog_7_method_2_code false an_c_49_1 = true := by decide +kernel
theorem an_k_49 : an_chkM (an_m_49, 6, an_c_49) = true := an_chkM_of (by decide +kernel) (an_app an_k_49_0 (an_k_49_1))
theorem an_k_50_0 : an_chkP 6 prog_7_method_3_code false an_c_50_0 = true := by decide +kernel
theorem an_k_50_1 : an_chkP 6 prog_7_method_3_code false an_c_50_1 = true := by decide +kernel
theorem an_k_50 : an_chkM (an_m_50, 6, an_c_50) = true := an_chkM_of (by decide +kernel) (an_app an_k_50_0 (an_k_50_1))
theorem an_k_51_0 : an_chkP 4 prog_2_method_3_code false an_c_51_0 = true := by decide +kernel
theorem an_k_51_1 : an_chkP 4 prog_2_method_3_code false an_c_51_1 = true := by decide +kernel
theorem an_k_51 : an_chkM (an_m_51, 4, an_c_51) = true := an_chkM_of (by decide +kernel) (an_app an_k_51_0 (an_k_51_1))
theorem an_k_52_0 : an_chkP 4 prog_2_method_4_code false an_c_52_0 = true := by decide +kernel
theorem an_k_52_1 : an_chkP 4 prog_2_method_4_code false an_c_52_1 = true := by decide +kernel
theorem an_k_52 : an_chkM (an_m_52, 4, an_c_52) = true := an_chkM_of (by decide +kernel) (an_app an_k_52_0 (an_k_52_1))
theorem an_k_53_0 : an_chkP 4 prog_2_method_5_code false an_c_53_0 = true := by decide +kernel
theorem an_k_53_1 : an_chkP 4 prog_2_method_5_code false an_c_53_1 = true := by decide +kernel
theorem an_k_53_2 : an_chkP 4 prog_2_method_5_code false an_c_53_2 = true := by decide +kernel
theorem an_k_53 : an_chkM (an_m_53, 4, an_c_53) = true := an_chkM_of (by decide +kernel) (an_app an_k_53_0 (an_app an_k_53_1 (an_k_53_2)))
theorem an_k_54_0 : an_chkP 4 prog_2_method_7_code false an_c_54_0 = true := by decide +kernel
theorem an_k_54_1 : an_chkP 4 prog_2_method_7_code false an_c_54_1 = true := by decide +kernel
theorem an_k_54 : an_chkM (an_m_54, 4, an_c_54) = true := an_chkM_of (by decide +kernel) (an_app an_k_54_0 (an_k_54_1))
theorem an_k_55_0 : an_chkP 4 prog_2_method_6_code false an_c_55_0 = true := by decide +kernel
theorem an_k_55_1 : an_chkP 4 prog_2_method_6_code false an_c_55_1 = true := by decide +kernel
theorem an_k_55 : an_chkM (an_m_55, 4, an_c_55) = true := an_chkM_of (by decide +kernel) (an_app an_k_55_0 (an_k_55_1))
theorem an_k_56_0 : an_chkP 4 prog_2_method_8_code false an_c_56_0 = true := by decide +kernel
theorem an_k_56_1 : an_chkP 4 prog_2_method_8_code false an_c_56_1 = true := by decide +kernel
theorem an_k_56 : an_chkM (an_m_56, 4, an_c_56) = true := an_chkM_of (by decide +kernel) (an_app an_k_56_0 (an_k_56_1))
theorem an_k_57 : an_chkM (an_m_57, 4, an_c_57) = true := by decide +kernel
theorem an_k_58_0 : an_chkP 6 prog_7_method_4_code false an_c_58_0 = true := by decide +kernel
theorem an_k_58_1 : an_chkP 6 prog_7_method_4_code false an_c_58_1 = true := by decide +kernel
theorem an_k_58 : an_chkM (an_m_58, 6, an_c_58) = true := an_chkM_of (by decide +kernel) (an_app an_k_58_0 (an_k_58_1))
theorem an_k_59_0 : an_chkP 6 prog_7_method_5_code false an_c_59_0 = true := by decide +kernel
theorem an_k_59_1 : an_chkP 6 prog_7_method_5_code false an_c_59_1 = true := by decide +kernel
theorem an_k_59 : an_chkM (an_m_59, 6, an_c_59) = true := an_chkM_of (by decide +kernel) (an_app an_k_59_0 (an_k_59_1))
theorem an_k_60 : an_chkM (an_m_60, 4, an_c_60) = true := by decide +kernel
theorem an_k_61_0 : an_chkP 4 prog_2_method_11_code false an_c_61_0 = true := by decide +kernel
theorem an_k_61_1 : an_chkP 4 prog_2_method_11_code false an_c_61_1 = true := by decide +kernel
theorem an_k_61_2 : an_chkP 4 prog_2_method_11_code false an_c_61_2 = true := by decide +kernel
theorem an_k_61 : an_chkM (an_m_61, 4, an_c_61) = true := an_chkM_of (by decide +kernel) (an_app an_k_61_0 (an_app an_k_61_1 (an_k_61_2)))
theorem an_k_62 : an_chkM (an_m_62, 4, an_c_62) = true := by decide +kernel
theorem an_k_63 : an_chkM (an_m_63, 4, an_c_63) = true := by decide +kernel
theorem an_k_64_0 : an_chkP 4 prog_2_method_14_code false an_c_64_0 = true := by decide +kernel
theorem an_k_64_1 : an_chkP 4 prog_2_method_14_code false an_c_64_1 = true := by decide +kernel
theorem an_k_64 : an_chkM (an_m_64, 4, an_c_64) = true := an_chkM_of (by decide +kernel) (an_app an_k_64_0 (an_k_64_1))
theorem an_k_65_0 : an_chkP 4 prog_2_method_16_code false an_c_65_0 = true := by decide +kernel
theorem an_k_65_1 : an_chkP 4 prog_2_method_16_code false an_c_65_1 = true := by decide +kernel
theorem an_k_65 : an_chkM (an_m_65, 4, an_c_65) = true := an_chkM_of (by decide +kernel) (an_app an_k_65_0 (an_k_65_1))
theorem an_k_66_0 : an_chkP 5 prog_9_method_11_code false an_c_66_0 = true := by decide +kernel
theorem an_k_66_1 : an_chkP 5 prog_9_method_11_code false an_c_66_1 = true := by decide +kernel
theorem an_k_66 : an_chkM (an_m_66, 5, an_c_66) = true := an_chkM_of (by decide +kernel) (an_app an_k_66_0 (an_k_66_1))
theorem an_k_67_0 : an_chkP 5 prog_9_method_4_code false an_c_67_0 = true := by decide +kernel
theorem an_k_67_1 : an_chkP 5 prog_9_method_4_code false an_c_67_1 = true := by decide +kernel
theorem an_k_67_2 : an_chkP 5 prog_9_method_4_code false an_c_67_2 = true := by decide +kernel
theorem an_k_67 : an_chkM (an_m_67, 5, an_c_67) = true := an_chkM_of (by decide +kernel) (an_app an_k_67_0 (an_app an_k_67_1 (an_k_67_2)))
theorem an_k_68_0 : an_chkP 5 prog_9_method_5_code false an_c_68_0 = true := by decide +kernel
theorem an_k_68_1 : an_chkP 5 prog_9_method_5_code false an_c_68_1 = true := by decide +kernel
theorem an_k_68 : an_chkM (an_m_68, 5, an_c_68) = true := an_chkM_of (by decide +kernel) (an_app an_k_68_0 (an_k_68_1))
theorem an_k_69_0 : an_chkP 5 prog_9_method_6_code false an_c_69_0 = true := by decide +kernel
theorem an_k_69_1 : an_chkP 5 prog_9_method_6_code false an_c_69_1 = true := by decide +kernel
theorem an_k_69 : an_chkM (an_m_69, 5, an_c_69) = true := an_chkM_of (by decide +kernel) (an_app an_k_69_0 (an_k_69_1))
theorem an_k_70 : an_chkM (an_m_70, 5, an_c_70) = true := by decide +kernel
theorem an_k_71_0 : an_chkP 5 prog_9_method_8_code false an_c_71_0 = true := by decide +kernel
theorem an_k_71_1 : an_chkP 5 prog_9_method_8_code false an_c_71_1 = true := by decide +kernel
theorem an_k_71_2 : an_chkP 5 prog_9_method_8_code false an_c_71_2 = true := by decide +kernel
theorem an_k_71 : an_chkM (an_m_71, 5, an_c_71) = true := an_chkM_of (by decide +kernel) (an_app an_k_71_0 (an_app an_k_71_1 (an_k_71_2)))
theorem an_k_72 : an_chkM (an_m_72, 5, an_c_72) = true := by decide +kernel
theorem an_k_73 : an_chkM (an_m_73, 0, an_c_73) = true := by decide +kernel
theorem an_k_74_0 : an_chkP 0 prog_1_method_5_code false an_c_74_0 = true := by decide +kernel
theorem an_k_74_1 : an_chkP 0 prog_1_method_5_code false an_c_74_1 = true := by decide +kernel
theorem an_k_74 : an_chkM (an_m_74, 0, an_c_74) = true := an_chkM_of (by decide +kernel) (an_app an_k_74_0 (an_k_74_1))
theorem an_k_75 : an_chkM (an_m_75, 9, an_c_75) = true := by decide +kernel
theorem an_k_76 : an_chkM (an_m_76, 0, an_c_76) = true := by decide +kernel
theorem an_k_77 : an_chkM (an_m_77, 6, an_c_77) = true := by decide +kernel
theorem an_k_78 : an_chkM (an_m_78, 6, an_c_78) = true := by decide +kernel
theorem an_k_79_0 : an_chkP 0 prog_1_method_7_code false an_c_79_0 = true := by decide +kernel
theorem an_k_79_1 : an_chkP 0 prog_1_method_7_code false an_c_79_1 = true := by decide +kernel
theorem an_k_79 : an_chkM (an_m_79, 0, an_c_79) = true := an_chkM_of (by decide +kernel) (an_app an_k_79_0 (an_k_79_1))
theorem an_k_80 : an_chkM (an_m_80, 2, an_c_80) = true := by decide +kernel
theorem an_k_81 : an_chkM (an_m_81, 5, an_c_81) = true := by decide +kernel
theorem an_k_82 : an_chkM (an_m_82, 9, an_c_82) = true := by decide +kernel
theorem an_k_83 : an_chkM (an_m_83, 9, an_c_83) = true := by decide +kernel
theorem an_k_84_0 : an_chkP 9 prog_6_method_8_code false an_c_84_0 = true := by decide +kernel
theorem an_k_84_1 : an_chkP 9 prog_6_method_8_code false an_c_84_1 = true := by decide +kernel
theorem an_k_84 : an_chkM (an_m_84, 9, an_c_84) = true := an_chkM_of (by decide +kernel) (an_app an_k_84_0 (an_k_84_1))
theorem an_k_85_0 : an_chkP 9 prog_6_method_10_code false an_c_85_0 = true := by decide +kernel
theorem an_k_85_1 : an_chkP 9 prog_6_method_10_code false an_c_85_1 = true := by decide +kernel
theorem an_k_85 : an_chkM (an_m_85, 9, an_c_85) = true := an_chkM_of (by decide +kernel) (an_app an_k_85_0 (an_k_85_1))
theorem an_k_86 : an_chkM (an_m_86, 9, an_c_86) = true := by decide +kernel
theorem an_k_87 : an_chkM (an_m_87, 9, an_c_87) = true := by decide +kernel
theorem an_k_88 : an_chkM (an_m_88, 9, an_c_88) = true := by decide +kernel
theorem an_k_89 : an_chkM (an_m_89, 9, an_c_89) = true := by decide +kernel
theorem an_k_90_0 : an_chkP 0 prog_1_method_8_code false an_c_90_0 = true := by decide +kernel
theorem an_k_90_1 : an_chkP 0 prog_1_method_8_code false an_c_90_1 = true := by decide +kernel
theorem an_k_90_2 : an_chkP 0 prog_1_method_8_code false an_c_90_2 = true := by decide +kernel
theorem an_k_90 : an_chkM (an_m_90, 0, an_c_90) = true := an_chkM_of (by decide +kernel) (an_app an_k_90_0 (an_app an_k_90_1 (an_k_90_2)))
theorem an_k_91 : an_chkM (an_m_91, 2, an_c_91) = true := by decide +kernel
theorem an_k_92 : an_chkM (an_m_92, 4, an_c_92) = true := by decide +kernel
theorem an_k_93 : an_chkM (an_m_93, 4, an_c_93) = true := by decide +kernel
theorem an_k_94_0 : an_chkP 0 prog_1_method_21_code false an_c_94_0 = true := by decide +kernel
theorem an_k_94_1 : an_chkP 0 prog_1_method_21_code false an_c_94_1 = true := by decide +kernel
theorem an_k_94 : an_chkM (an_m_94, 0, an_c_94) = true := an_chkM_of (by decide +kernel) (an_app an_k_94_0 (an_k_94_1))
theorem an_k_95_0 : an_chkP 9 prog_6_method_5_code false an_c_95_0 = true := by decide +kernel
theorem an_k_95_1 : an_chkP 9 prog_6_method_5_code false an_c_95_1 = true := by decide +kernel
theorem an_k_95 : an_chkM (an_m_95, 9, an_c_95) = true := an_chkM_of (by decide +kernel) (an_app an_k_95_0 (an_k_95_1))
theorem an_k_96 : an_chkM (an_m_96, 10, an_c_96) = true := by decide +kernel
theorem an_k_97_0 : an_chkP 0 prog_1_method_9_code false an_c_97_0 = true := by decide +kernel
theorem an_k_97_1 : an_chkP 0 prog_1_method_9_code false an_c_97_1 = true := by decide +kernel
theorem an_k_97 : an_chkM (an_m_97, 0, an_c_97) = true := an_chkM_of (by decide +kernel) (an_app an_k_97_0 (an_k_97_1))
theorem an_k_98_0 : an_chkP 7 prog_11_method_2_code false an_c_98_0 = true := by decide +kernel
theorem an_k_98_1 : an_chkP 7 prog_11_method_2_code false an_c_98_1 = true := by decide +kernel
theorem an_k_98 : an_chkM (an_m_98, 7, an_c_98) = true := an_chkM_of (by decide +kernel) (an_app an_k_98_0 (an_k_98_1))
theorem an_k_99_0 : an_chkP 7 prog_11_method_9_code false an_c_99_0 = true := by decide +kernel
theorem an_k_99_1 : an_chkP 7 prog_11_method_9_code false an_c_99_1 = true := by decide +kernel
theorem an_k_99 : an_chkM (an_m_99, 7, an_c_99) = true := an_chkM_of (by decide +kernel) (an_app an_k_99_0 (an_k_99_1))
theorem an_k_100 : an_chkM (an_m_100, 7, an_c_100) = true := by decide +kernel
theorem an_k_101 : an_chkM (an_m_101, 7, an_c_101) = true := by decide +kernel
theorem an_k_102_0 : an_chkP 7 prog_11_method_12_code false an_c_102_0 = true := by decide +kernel
theorem an_k_102_1 : an_chkP 7 prog_11_method_12_code false an_c_102_1 = true := by decide +kernel
theorem an_k_102_2 : an_chkP 7 prog_11_method_12_code false an_c_102_2 = true := by decide +kernel
theorem an_k_102 : an_chkM (an_m_102, 7, an_c_102) = true := an_chkM_of (by decide +kernel) (an_app an_k_102_0 (an_app an_k_102_1 (an_k_102_2)))
theorem an_k_103 : an_chkM (an_m_103, 7, an_c_103) = true := by decide +kernel
theorem an_k_104 : an_chkM (an_m_104, 7, an_c_104) = true := by decide +kernel
theorem an_k_105 : an_chkM (an_m_105, 0, an_c_105) = true := by decide +kernel
theorem an_k_106 : an_chkM (an_m_106, 7, an_c_106) = true := by decide +kernel
theorem an_k_107_0 : an_chkP 7 prog_11_method_4_code false an_c_107_0 = true := by decide +kernel
theorem an_k_107_1 : an_chkP 7 prog_11_method_4_code false an_c_107_1 = true := by decide +kernel
theorem an_k_107 : an_chkM (an_m_107, 7, an_c_107) = true := an_chkM_of (by decide +kernel) (an_app an_k_107_0 (an_k_107_1))
theorem an_k_108 : an_chkM (an_m_108, 7, an_c_108) = true := by decide +kernel
theorem an_k_109_0 : an_chkP 7 prog_11_method_7_code false an_c_109_0 = true := by decide +kernel
theorem an_k_109_1 : an_chkP 7 prog_11_method_7_code false an_c_109_1 = true := by decide +kernel
theorem an_k_109_2 : an_chkP 7 prog_11_method_7_code false an_c_109_2 = true := by decide +kernel
theorem an_k_109_3 : an_chkP 7 prog_11_method_7_code false an_c_109_3 = true := by decide +kernel
theorem an_k_109 : an_chkM (an_m_109, 7, an_c_109) = true := an_chkM_of (by decide +kernel) (an_app an_k_109_0 (an_app an_k_109_1 (an_app an_k_109_2 (an_k_109_3))))
theorem an_k_110 : an_chkM (an_m_110, 0, an_c_110) = true := by decide +kernel
theorem an_k_111_0 : an_chkP 7 prog_11_method_13_code false an_c_111_0 = true := by decide +kernel
theorem an_k_111_1 : an_chkP 7 prog_11_method_13_code false an_c_111_1 = true := by decide +kernel
theorem an_k_111 : an_chkM (an_m_111, 7, an_c_111) = true := an_chkM_of (by decide +kernel) (an_app an_k_111_0 (an_k_111_1))
theorem an_k_112 : an_chkM (an_m_112, 0, an_c_112) = true := by decide +kernel
theorem an_k_113 : an_chkM (an_m_113, 7, an_c_113) = true := by decide +kernel
theorem an_k_114 : an_chkM (an_m_114, 7, an_c_114) = true := by decide +kernel
theorem an_k_115 : an_chkM (an_m_115, 7, an_c_115) = true := by decide +kernel
theorem an_k_116 : an_chkM (an_m_116, 7, an_c_116) = true := by decide +kernel
theorem an_k_117 : an_chkM (an_m_117, 7, an_c_117) = true := by decide +kernel
theorem an_k_118_0 : an_chkP 0 prog_1_method_13_code false an_c_118_0 = true := by decide +kernel
theorem an_k_118_1 : an_chkP 0 prog_1_method_13_code false an_c_118_1 = true := by decide +kernel
theorem an_k_118 : an_chkM (an_m_118, 0, an_c_118) = true := an_chkM_of (by decide +kernel) (an_app an_k_118_0 (an_k_118_1))
theorem an_k_119 : an_chkM (an_m_119, 7, an_c_119) = true := by decide +kernel
theorem an_k_120_0 : an_chkP 7 prog_11_method_20_code false an_c_120_0 = true := by decide +kernel
theorem an_k_120_1 : an_chkP 7 prog_11_method_20_code false an_c_120_1 = true := by decide +kernel
theorem an_k_120_2 : an_chkP 7 prog_11_method_20_code false an_c_120_2 = true := by decide +kernel
theorem an_k_120 : an_chkM (an_m_120, 7, an_c_120) = true := an_chkM_of (by decide +kernel) (an_app an_k_120_0 (an_app an_k_120_1 (an_k_120_2)))
theorem an_k_121 : an_chkM (an_m_121, 7, an_c_121) = true := by decide +kernel
theorem an_k_122 : an_chkM (an_m_122, 0, an_c_122) = true := by decide +kernel
theorem an_k_123_0 : an_chkP 7 prog_11_method_22_code false an_c_123_0 = true := by decide +kernel
theorem an_k_123_1 : an_chkP 7 prog_11_method_22_code false an_c_123_1 = true := by decide +kernel
theorem an_k_123_2 : an_chkP 7 prog_11_method_22_code false an_c_123_2 = true := by decide +kernel
theorem an_k_123 : an_chkM (an_m_123, 7, an_c_123) = true := an_chkM_of (by decide +kernel) (an_app an_k_123_0 (an_app an_k_123_1 (an_k_123_2)))
theorem an_k_124 : an_chkM (an_m_124, 7, an_c_124) = true := by decide +kernel
theorem an_k_125_0 : an_chkP 0 prog_1_method_15_code false an_c_125_0 = true := by decide +kernel
theorem an_k_125_1 : an_chkP 0 prog_1_method_15_code false an_c_125_1 = true := by decide +kernel
theorem an_k_125 : an_chkM (an_m_125, 0, an_c_125) = true := an_chkM_of (by decide +kernel) (an_app an_k_125_0 (an_k_125_1))
theorem an_k_126_0 : an_chkP 0 prog_1_method_17_code false an_c_126_0 = true := by decide +kernel
theorem an_k_126_1 : an_chkP 0 prog_1_method_17_code false an_c_126_1 = true := by decide +kernel
theorem an_k_126 : an_chkM (an_m_126, 0, an_c_126) = true := an_chkM_of (by decide +kernel) (an_app an_k_126_0 (an_k_126_1))
theorem an_k_127 : an_chkM (an_m_127, 0, an_c_127) = true := by decide +kernel
theorem an_k_128_0 : an_chkP 6 prog_7_method_6_code false an_c_128_0 = true := by decide +kernel
theorem an_k_128_1 : an_chkP 6 prog_7_method_6_code false an_c_128_1 = true := by decide +kernel
theorem an_k_128 : an_chkM (an_m_128, 6, an_c_128) = true := an_chkM_of (by decide +kernel) (an_app an_k_128_0 (an_k_128_1))
theorem an_k_129 : an_chkM (an_m_129, 0, an_c_129) = true := by decide +kernel
theorem an_k_130 : an_chkM (an_m_130, 0, an_c_130) = true := by decide +kernel
theorem an_k_131 : an_chkM (an_m_131, 0, an_c_131) = true := by decide +kernel
theorem an_k_132_0 : an_chkP 11 prog_13_method_1_code true an_c_132_0 = true := by decide +kernel
theorem an_k_132_1 : an_chkP 11 prog_13_method_1_code true an_c_132_1 = true := by decide +kernel
theorem an_k_132_2 : an_chkP 11 prog_13_method_1_code true an_c_132_2 = true := by decide +kernel
theorem an_k_132_3 : an_chkP 11 prog_13_method_1_code true an_c_132_3 = true := by decide +kernel
theorem an_k_132_4 : an_chkP 11 prog_13_method_1_code true an_c_132_4 = true := by decide +kernel
theorem an_k_132_5 : an_chkP 11 prog_13_method_1_code true an_c_132_5 = true := by decide +kernel
theorem an_k_132_6 : an_chkP 11 prog_13_method_1_code true an_c_132_6 = true := by decide +kernel
theorem an_k_132_7 : an_chkP 11 prog_13_method_1_code true an_c_132_7 = true := by decide +kernel
theorem an_k_132_8 : an_chkP 11 prog_13_method_1_code true an_c_132_8 = true := by decide +kernel
theorem an_k_132_9 : an_chkP 11 prog_13_method_1_code true an_c_132_9 = true := by decide +kernel
theorem an_k_132_10 : an_chkP 11 prog_13_method_1_code true an_c_132_10 = true := by decide +kernel
theorem an_k_132 : an_chkM (an_m_132, 11, an_c_132) = true := an_chkM_of (by decide +kernel) (an_app an_k_132_0 (an_app an_k_132_1 (an_app an_k_132_2 (an_app an_k_132_3 (an_app an_k_132_4 (an_app an_k_132_5 (an_app an_k_132_6 (an_app an_k_132_7 (an_app an_k_132_8 (an_app an_k_132_9 (an_k_132_10)))))))))))
theorem an_k_133 : an_chkM (an_m_133, 11, an_c_133) = true := by decide +kernel
theorem an_k_134 : an_chkM (an_m_134, 11, an_c_134) = true := by decide +kernel
theorem an_k_135 : an_chkM (an_m_135, 11, an_c_135) = true := by decide +kernel
theorem an_k_136 : an_chkM (an_m_136, 11, an_c_136) = true := by decide +kernel
theorem an_k_137 : an_chkM (an_m_137, 11, an_c_137) = true := by decide +kernel
theorem an_k_138_0 : an_chkP 11 prog_13_method_5_code false an_c_138_0 = true := by decide +kernel
theorem an_k_138_1 : an_chkP 11 prog_13_method_5_code false an_c_138_1 = true := by decide +kernel
theorem an_k_138_2 : an_chkP 11 prog_13_method_5_code false an_c_138_2 = true := by decide +kernel
theorem an_k_138_3 : an_chkP 11 prog_13_method_5_code false an_c_138_3 = true := by decide +kernel
theorem an_k_138 : an_chkM (an_m_138, 11, an_c_138) = true := an_chkM_of (by decide +kernel) (an_app an_k_138_0 (an_app an_k_138_1 (an_app an_k_138_2 (an_k_138_3))))
theorem an_k_139 : an_chkM (an_m_139, 11, an_c_139) = true := by decide +kernel
theorem an_k_140_0 : an_chkP 11 prog_13_method_6_code false an_c_140_0 = true := by decide +kernel
theorem an_k_140_1 : an_chkP 11 prog_13_method_6_code false an_c_140_1 = true := by decide +kernel
theorem an_k_140 : an_chkM (an_m_140, 11, an_c_140) = true := an_chkM_of (by decide +kernel) (an_app an_k_140_0 (an_k_140_1))
theorem an_k_141_0 : an_chkP 11 prog_13_method_13_code false an_c_141_0 = true := by decide +kernel
theorem an_k_141_1 : an_chkP 11 prog_13_method_13_code false an_c_141_1 = true := by decide +kernel
theorem an_k_141_2 : an_chkP 11 prog_13_method_13_code false an_c_141_2 = true := by decide +kernel
theorem an_k_141 : an_chkM (an_m_141, 11, an_c_141) = true := an_chkM_of (by decide +kernel) (an_app an_k_141_0 (an_app an_k_141_1 (an_k_141_2)))
theorem an_k_142 : an_chkM (an_m_142, 11, an_c_142) = true := by decide +kernel
theorem an_k_143 : an_chkM (an_m_143, 11, an_c_143) = true := by decide +kernel
theorem an_k_144 : an_chkM (an_m_144, 11, an_c_144) = true := by decide +kernel
theorem an_k_145 : an_chkM (an_m_145, 11, an_c_145) = true := by decide +kernel
theorem an_k_146_0 : an_chkP 11 prog_13_method_14_code false an_c_146_0 = true := by decide +kernel
theorem an_k_146_1 : an_chkP 11 prog_13_method_14_code false an_c_146_1 = true := by decide +kernel
theorem an_k_146_2 : an_chkP 11 prog_13_method_14_code false an_c_146_2 = true := by decide +kernel
theorem an_k_146 : an_chkM (an_m_146, 11, an_c_146) = true := an_chkM_of (by decide +kernel) (an_app an_k_146_0 (an_app an_k_146_1 (an_k_146_2)))
theorem an_k_147_0 : an_chkP 11 prog_13_method_12_code false an_c_147_0 = true := by decide +kernel
theorem an_k_147_1 : an_chkP 11 prog_13_method_12_code false an_c_147_1 = true := by decide +kernel
theorem an_k_147_2 : an_chkP 11 prog_13_method_12_code false an_c_147_2 = true := by decide +kernel
theorem an_k_147_3 : an_chkP 11 prog_13_method_12_code false an_c_147_3 = true := by decide +kernel
theorem an_k_147 : an_chkM (an_m_147, 11, an_c_147) = true := an_chkM_of (by decide +kernel) (an_app an_k_147_0 (an_app an_k_147_1 (an_app an_k_147_2 (an_k_147_3))))
theorem an_k_148 : an_chkM (an_m_148, 11, an_c_148) = true := by decide +kernel
theorem an_k_149_0 : an_chkP 11 prog_13_method_27_code false an_c_149_0 = true := by decide +kernel
theorem an_k_149_1 : an_chkP 11 prog_13_method_27_code false an_c_149_1 = true := by decide +kernel
theorem an_k_149 : an_chkM (an_m_149, 11, an_c_149) = true := an_chkM_of (by decide +kernel) (an_app an_k_149_0 (an_k_149_1))
theorem an_k_150 : an_chkM (an_m_150, 11, an_c_150) = true := by decide +kernel
theorem an_k_151_0 : an_chkP 11 prog_13_method_26_code false an_c_151_0 = true := by decide +kernel
theorem an_k_151_1 : an_chkP 11 prog_13_method_26_code false an_c_151_1 = true := by decide +kernel
theorem an_k_151_2 : an_chkP 11 prog_13_method_26_code false an_c_151_2 = true := by decide +kernel
theorem an_k_151_3 : an_chkP 11 prog_13_method_26_code false an_c_151_3 = true := by decide +kernel
theorem an_k_151 : an_chkM (an_m_151, 11, an_c_151) = true := an_chkM_of (by decide +kernel) (an_app an_k_151_0 (an_app an_k_151_1 (an_app an_k_151_2 (an_k_151_3))))
theorem an_k_152_0 : an_chkP 11 prog_13_method_19_code false an_c_152_0 = true := by decide +kernel
theorem an_k_152_1 : an_chkP 11 prog_13_method_19_code false an_c_152_1 = true := by decide +kernel
theorem an_k_152 : an_chkM (an_m_152, 11, an_c_152) = true := an_chkM_of (by decide +kernel) (an_app an_k_152_0 (an_k_152_1))
theorem an_k_153 : an_chkM (an_m_153, 11, an_c_153) = true := by decide +kernel
theorem an_k_154_0 : an_chkP 11 prog_13_method_24_code false an_c_154_0 = true := by decide +kernel
theorem an_k_154_1 : an_chkP 11 prog_13_method_24_code false an_c_154_1 = true := by decide +kernel
theorem an_k_154 : an_chkM (an_m_154, 11, an_c_154) = true := an_chkM_of (by decide +kernel) (an_app an_k_154_0 (an_k_154_1))
theorem an_k_155 : an_chkM (an_m_155, 11, an_c_155) = true := by decide +kernel
theorem an_k_156_0 : an_chkP 11 prog_13_method_25_code false an_c_156_0 = true := by decide +kernel
theorem an_k_156_1 : an_chkP 11 prog_13_method_25_code false an_c_156_1 = true := by decide +kernel
theorem an_k_156_2 : an_chkP 11 prog_13_method_25_code false an_c_156_2 = true := by decide +kernel
theorem an_k_156_3 : an_chkP 11 prog_13_method_25_code false an_c_156_3 = true := by decide +kernel
theorem an_k_156 : an_chkM (an_m_156, 11, an_c_156) = true := an_chkM_of (by decide +kernel) (an_app an_k_156_0 (an_app an_k_156_1 (an_app an_k_156_2 (an_k_156_3))))
theorem an_k_157 : an_chkM (an_m_157, 11, an_c_157) = true := by decide +kernel
theorem an_k_158 : an_chkM (an_m_158, 11, an_c_158) = true := by decide +kernel
theorem an_k_159 : an_chkM (an_m_159, 11, an_c_159) = true := by decide +kernel
theorem an_k_160_0 : an_chkP 11 prog_13_method_28_code false an_c_160_0 = true := by decide +kernel
theorem an_k_160_1 : an_chkP 11 prog_13_method_28_code false an_c_160_1 = true := by decide +kernel
theorem an_k_160_2 : an_chkP 11 prog_13_method_28_code false an_c_160_2 = true := by decide +kernel
theorem an_k_160_3 : an_chkP 11 prog_13_method_28_code false an_c_160_3 = true := by decide +kernel
theorem an_k_160 : an_chkM (an_m_160, 11, an_c_160) = true := an_chkM_of (by decide +kernel) (an_app an_k_160_0 (an_app an_k_160_1 (an_app an_k_160_2 (an_k_160_3))))
theorem an_k_161 : an_chkM (an_m_161, 11, an_c_161) = true := by decide +kernel
theorem an_k_162_0 : an_chkP 11 prog_13_method_48_code false an_c_162_0 = true := by decide +kernel
theorem an_k_162_1 : an_chkP 11 prog_13_method_48_code false an_c_162_1 = true := by decide +kernel
theorem an_k_162_2 : an_chkP 11 prog_13_method_48_code false an_c_162_2 = true := by decide +kernel
theorem an_k_162 : an_chkM (an_m_162, 11, an_c_162) = true := an_chkM_of (by decide +kernel) (an_app an_k_162_0 (an_app an_k_162_1 (an_k_162_2)))
theorem an_k_163_0 : an_chkP 11 prog_13_method_44_code false an_c_163_0 = true := by decide +kernel
theorem an_k_163_1 : an_chkP 11 prog_13_method_44_code false an_c_163_1 = true := by decide +kernel
theorem an_k_163_2 : an_chkP 11 prog_13_method_44_code false an_c_163_2 = true := by decide +kernel
theorem an_k_163 : an_chkM (an_m_163, 11, an_c_163) = true := an_chkM_of (by decide +kernel) (an_app an_k_163_0 (an_app an_k_163_1 (an_k_163_2)))
theorem an_k_164 : an_chkM (an_m_164, 11, an_c_164) = true := by decide +kernel
theorem an_k_165 : an_chkM (an_m_165, 11, an_c_165) = true := by decide +kernel
theorem an_k_166_0 : an_chkP 11 prog_13_method_38_code false an_c_166_0 = true := by decide +kernel
theorem an_k_166_1 : an_chkP 11 prog_13_method_38_code false an_c_166_1 = true := by decide +kernel
theorem an_k_166_2 : an_chkP 11 prog_13_method_38_code false an_c_166_2 = true := by decide +kernel
theorem an_k_166 : an_chkM (an_m_166, 11, an_c_166) = true := an_chkM_of (by decide +kernel) (an_app an_k_166_0 (an_app an_k_166_1 (an_k_166_2)))
theorem an_k_167 : an_chkM (an_m_167, 11, an_c_167) = true := by decide +kernel
theorem an_k_168_0 : an_chkP 11 prog_13_method_40_code false an_c_168_0 = true := by decide +kernel
theorem an_k_168_1 : an_chkP 11 prog_13_method_40_code false an_c_168_1 = true := by decide +kernel
theorem an_k_168_2 : an_chkP 11 prog_13_method_40_code false an_c_168_2 = true := by decide +kernel
theorem an_k_168 : an_chkM (an_m_168, 11, an_c_168) = true := an_chkM_of (by decide +kernel) (an_app an_k_168_0 (an_app an_k_168_1 (an_k_168_2)))
theorem an_k_169 : an_chkM (an_m_169, 11, an_c_169) = true := by decide +kernel
theorem an_k_170_0 : an_chkP 11 prog_13_method_41_code false an_c_170_0 = true := by decide +kernel
theorem an_k_170_1 : an_chkP 11 prog_13_method_41_code false an_c_170_1 = true := by decide +kernel
theorem an_k_170_2 : an_chkP 11 prog_13_method_41_code false an_c_170_2 = true := by decide +kernel
theorem an_k_170 : an_chkM (an_m_170, 11, an_c_170) = true := an_chkM_of (by decide +kernel) (an_app an_k_170_0 (an_app an_k_170_1 (an_k_170_2)))
theorem an_k_171 : an_chkM (an_m_171, 11, an_c_171) = true := by decide +kernel
theorem an_k_172_0 : an_chkP 11 prog_13_method_43_code false an_c_172_0 = true := by decide +kernel
theorem an_k_172_1 : an_chkP 11 prog_13_method_43_code false an_c_172_1 = true := by decide +kernel
theorem an_k_172_2 : an_chkP 11 prog_13_method_43_code false an_c_172_2 = true := by decide +kernel
theorem an_k_172_3 : an_chkP 11 prog_13_method_43_code false an_c_172_3 = true := by decide +kernel
theorem an_k_172 : an_chkM (an_m_172, 11, an_c_172) = true := an_chkM_of (by decide +kernel) (an_app an_k_172_0 (an_app an_k_172_1 (an_app an_k_172_2 (an_k_172_3))))
theorem an_k_173_0 : an_chkP 11 prog_13_method_46_code false an_c_173_0 = true := by decide +kernel
theorem an_k_173_1 : an_chkP 11 prog_13_method_46_code false an_c_173_1 = true := by decide +kernel
theorem an_k_173 : an_chkM (an_m_173, 11, an_c_173) = true := an_chkM_of (by decide +kernel) (an_app an_k_173_0 (an_k_173_1))
theorem an_k_174 : an_chkM (an_m_174, 11, an_c_174) = true := by decide +kernel
theorem an_k_175_0 : an_chkP 11 prog_13_method_33_code false an_c_175_0 = true := by decide +kernel
theorem an_k_175_1 : an_chkP 11 prog_13_method_33_code false an_c_175_1 = true := by decide +kernel
theorem an_k_175 : an_chkM (an_m_175, 11, an_c_175) = true := an_chkM_of (by decide +kernel) (an_app an_k_175_0 (an_k_175_1))
theorem an_k_176_0 : an_chkP 11 prog_13_method_32_code false an_c_176_0 = true := by decide +kernel
theorem an_k_176_1 : an_chkP 11 prog_13_method_32_code false an_c_176_1 = true := by decide +kernel
theorem an_k_176_2 : an_chkP 11 prog_13_method_32_code false an_c_176_2 = true := by decide +kernel
theorem an_k_176 : an_chkM (an_m_176, 11, an_c_176) = true := an_chkM_of (by decide +kernel) (an_app an_k_176_0 (an_app an_k_176_1 (an_k_176_2)))
theorem an_k_177 : an_chkM (an_m_177, 11, an_c_177) = true := by decide +kernel
theorem an_k_178_0 : an_chkP 11 prog_13_method_30_code false an_c_178_0 = true := by decide +kernel
theorem an_k_178_1 : an_chkP 11 prog_13_method_30_code false an_c_178_1 = true := by decide +kernel
theorem an_k_178_2 : an_chkP 11 prog_13_method_30_code false an_c_178_2 = true := by decide +kernel
theorem an_k_178 : an_chkM (an_m_178, 11, an_c_178) = true := an_chkM_of (by decide +kernel) (an_app an_k_178_0 (an_app an_k_178_1 (an_k_178_2)))
theorem an_k_179 : an_chkM (an_m_179, 11, an_c_179) = true := by decide +kernel
theorem an_k_180_0 : an_chkP 11 prog_13_method_34_code false an_c_180_0 = true := by decide +kernel
theorem an_k_180_1 : an_chkP 11 prog_13_method_34_code false an_c_180_1 = true := by decide +kernel
theorem an_k_180_2 : an_chkP 11 prog_13_method_34_code false an_c_180_2 = true := by decide +kernel
theorem an_k_180 : an_chkM (an_m_180, 11, an_c_180) = true := an_chkM_of (by decide +kernel) (an_app an_k_180_0 (an_app an_k_180_1 (an_k_180_2)))
theorem an_k_181 : an_chkM (an_m_181, 11, an_c_181) = true := by decide +kernel
theorem an_k_182 : an_chkM (an_m_182, 11, an_c_182) = true := by decide +kernel
theorem an_k_183 : an_chkM (an_m_183, 11, an_c_183) = true := by decide +kernel
theorem an_k_184_0 : an_chkP 11 prog_13_method_65_code false an_c_184_0 = true := by decide +kernel
theorem an_k_184_1 : an_chkP 11 prog_13_method_65_code false an_c_184_1 = true := by decide +kernel
theorem an_k_184 : an_chkM (an_m_184, 11, an_c_184) = true := an_chkM_of (by decide +kernel) (an_app an_k_184_0 (an_k_184_1))
theorem an_k_185_0 : an_chkP 11 prog_13_method_64_code false an_c_185_0 = true := by decide +kernel
theorem an_k_185_1 : an_chkP 11 prog_13_method_64_code false an_c_185_1 = true := by decide +kernel
theorem an_k_185 : an_chkM (an_m_185, 11, an_c_185) = true := an_chkM_of (by decide +kernel) (an_app an_k_185_0 (an_k_185_1))
theorem an_k_186 : an_chkM (an_m_186, 11, an_c_186) = true := by decide +kernel
theorem an_k_187 : an_chkM (an_m_187, 11, an_c_187) = true := by decide +kernel
theorem an_k_188 : an_chkM (an_m_188, 11, an_c_188) = true := by decide +kernel
theorem an_k_189_0 : an_chkP 11 prog_13_method_81_code false an_c_189_0 = true := by decide +kernel
theorem an_k_189_1 : an_chkP 11 prog_13_method_81_code false an_c_189_1 = true := by decide +kernel
theorem an_k_189_2 : an_chkP 11 prog_13_method_81_code false an_c_189_2 = true := by decide +kernel
theorem an_k_189 : an_chkM (an_m_189, 11, an_c_189) = true := an_chkM_of (by decide +kernel) (an_app an_k_189_0 (an_app an_k_189_1 (an_k_189_2)))
theorem an_k_190_0 : an_chkP 11 prog_13_method_80_code false an_c_190_0 = true := by decide +kernel
theorem an_k_190_1 : an_chkP 11 prog_13_method_80_code false an_c_190_1 = true := by decide +kernel
theorem an_k_190 : an_chkM (an_m_190, 11, an_c_190) = true := an_chkM_of (by decide +kernel) (an_app an_k_190_0 (an_k_190_1))
theorem an_k_191 : an_chkM (an_m_191, 11, an_c_191) = true := by decide +kernel
theorem an_k_192 : an_chkM (an_m_192, 11, an_c_192) = true := by decide +kernel
theorem an_k_193 : an_chkM (an_m_193, 11, an_c_193) = true := by decide +kernel
theorem an_k_194_0 : an_chkP 11 prog_13_method_66_code false an_c_194_0 = true := by decide +kernel
theorem an_k_194_1 : an_chkP 11 prog_13_method_66_code false an_c_194_1 = true := by decide +kernel
theorem an_k_194_2 : an_chkP 11 prog_13_method_66_code false an_c_194_2 = true := by decide +kernel
theorem an_k_194 : an_chkM (an_m_194, 11, an_c_194) = true := an_chkM_of (by decide +kernel) (an_app an_k_194_0 (an_app an_k_194_1 (an_k_194_2)))
theorem an_k_195_0 : an_chkP 11 prog_13_method_52_code false an_c_195_0 = true := by decide +kernel
theorem an_k_195_1 : an_chkP 11 prog_13_method_52_code false an_c_195_1 = true := by decide +kernel
theorem an_k_195 : an_chkM (an_m_195, 11, an_c_195) = true := an_chkM_of (by decide +kernel) (an_app an_k_195_0 (an_k_195_1))
theorem an_k_196_0 : an_chkP 11 prog_13_method_83_code false an_c_196_0 = true := by decide +kernel
theorem an_k_196_1 : an_chkP 11 prog_13_method_83_code false an_c_196_1 = true := by decide +kernel
theorem an_k_196 : an_chkM (an_m_196, 11, an_c_196) = true := an_chkM_of (by decide +kernel) (an_app an_k_196_0 (an_k_196_1))
theorem an_k_197_0 : an_chkP 11 prog_13_method_82_code false an_c_197_0 = true := by decide +kernel
theorem an_k_197_1 : an_chkP 11 prog_13_method_82_code false an_c_197_1 = true := by decide +kernel
theorem an_k_197 : an_chkM (an_m_197, 11, an_c_197) = true := an_chkM_of (by decide +kernel) (an_app an_k_197_0 (an_k_197_1))
theorem an_k_198_0 : an_chkP 11 prog_13_method_67_code false an_c_198_0 = true := by decide +kernel
theorem an_k_198_1 : an_chkP 11 prog_13_method_67_code false an_c_198_1 = true := by decide +kernel
theorem an_k_198_2 : an_chkP 11 prog_13_method_67_code false an_c_198_2 = true := by decide +kernel
theorem an_k_198_3 : an_chkP 11 prog_13_method_67_code false an_c_198_3 = true := by decide +kernel
theorem an_k_198 : an_chkM (an_m_198, 11, an_c_198) = true := an_chkM_of (by decide +kernel) (an_app an_k_198_0 (an_app an_k_198_1 (an_app an_k_198_2 (an_k_198_3))))
theorem an_k_199_0 : an_chkP 11 prog_13_method_53_code false an_c_199_0 = true := by decide +kernel
theorem an_k_199_1 : an_chkP 11 prog_13_method_53_code false an_c_199_1 = true := by decide +kernel
theorem an_k_199_2 : an_chkP 11 prog_13_method_53_code false an_c_199_2 = true := by decide +kernel
theorem an_k_199_3 : an_chkP 11 prog_13_method_53_code false an_c_199_3 = true := by decide +kernel
theorem an_k_199 : an_chkM (an_m_199, 11, an_c_199) = true := an_chkM_of (by decide +kernel) (an_app an_k_199_0 (an_app an_k_199_1 (an_app an_k_199_2 (an_k_199_3))))
theorem an_k_200_0 : an_chkP 11 prog_13_method_54_code false an_c_200_0 = true := by decide +kernel
theorem an_k_200_1 : an_chkP 11 prog_13_method_54_code false an_c_200_1 = true := by decide +kernel
theorem an_k_200_2 : an_chkP 11 prog_13_method_54_code false an_c_200_2 = true := by decide +kernel
theorem an_k_200 : an_chkM (an_m_200, 11, an_c_200) = true := an_chkM_of (by decide +kernel) (an_app an_k_200_0 (an_app an_k_200_1 (an_k_200_2)))
theorem an_k_201_0 : an_chkP 11 prog_13_method_51_code false an_c_201_0 = true := by decide +kernel
theorem an_k_201_1 : an_chkP 11 prog_13_method_51_code false an_c_201_1 = true := by decide +kernel
theorem an_k_201_2 : an_chkP 11 prog_13_method_51_code false an_c_201_2 = true := by decide +kernel
theorem an_k_201 : an_chkM (an_m_201, 11, an_c_201) = true := an_chkM_of (by decide +kernel) (an_app an_k_201_0 (an_app an_k_201_1 (an_k_201_2)))
theorem an_k_202 : an_chkM (an_m_202, 11, an_c_202) = true := by decide +kernel
theorem an_k_203 : an_chkM (an_m_203, 11, an_c_203) = true := by decide +kernel
theorem an_k_204_0 : an_chkP 11 prog_13_method_55_code false an_c_204_0 = true := by decide +kernel
theorem an_k_204_1 : an_chkP 11 prog_13_method_55_code false an_c_204_1 = true := by decide +kernel
theorem an_k_204 : an_chkM (an_m_204, 11, an_c_204) = true := an_chkM_of (by decide +kernel) (an_app an_k_204_0 (an_k_204_1))
theorem an_k_205_0 : an_chkP 11 prog_13_method_56_code false an_c_205_0 = true := by decide +kernel
theorem an_k_205_1 : an_chkP 11 prog_13_method_56_code false an_c_205_1 = true := by decide +kernel
theorem an_k_205_2 : an_chkP 11 prog_13_method_56_code false an_c_205_2 = true := by decide +kernel
theorem an_k_205 : an_chkM (an_m_205, 11, an_c_205) = true := an_chkM_of (by decide +kernel) (an_app an_k_205_0 (an_app an_k_205_1 (an_k_205_2)))
theorem an_k_206_0 : an_chkP 11 prog_13_method_69_code false an_c_206_0 = true := by decide +kernel
theorem an_k_206_1 : an_chkP 11 prog_13_method_69_code false an_c_206_1 = true := by decide +kernel
theorem an_k_206 : an_chkM (an_m_206, 11, an_c_206) = true := an_chkM_of (by decide +kernel) (an_app an_k_206_0 (an_k_206_1))
theorem an_k_207_0 : an_chkP 11 prog_13_method_72_code false an_c_207_0 = true := by decide +kernel
theorem an_k_207_1 : an_chkP 11 prog_13_method_72_code false an_c_207_1 = true := by decide +kernel
theorem an_k_207 : an_chkM (an_m_207, 11, an_c_207) = true := an_chkM_of (by decide +kernel) (an_app an_k_207_0 (an_k_207_1))
theorem an_k_208 : an_chkM (an_m_208, 11, an_c_208) = true := by decide +kernel
theorem an_k_209_0 : an_chkP 11 prog_13_method_74_code false an_c_209_0 = true := by decide +kernel
theorem an_k_209_1 : an_chkP 11 prog_13_method_74_code false an_c_209_1 = true := by decide +kernel
theorem an_k_209 : an_chkM (an_m_209, 11, an_c_209) = true := an_chkM_of (by decide +kernel) (an_app an_k_209_0 (an_k_209_1))
theorem an_k_210 : an_chkM (an_m_210, 11, an_c_210) = true := by decide +kernel
theorem an_k_211_0 : an_chkP 11 prog_13_method_73_code false an_c_211_0 = true := by decide +kernel
theorem an_k_211_1 : an_chkP 11 prog_13_method_73_code false an_c_211_1 = true := by decide +kernel
theorem an_k_211 : an_chkM (an_m_211, 11, an_c_211) = true := an_chkM_of (by decide +kernel) (an_app an_k_211_0 (an_k_211_1))
theorem an_k_212 : an_chkM (an_m_212, 11, an_c_212) = true := by decide +kernel
theorem an_k_213_0 : an_chkP 11 prog_13_method_75_code false an_c_213_0 = true := by decide +kernel
theorem an_k_213_1 : an_chkP 11 prog_13_method_75_code false an_c_213_1 = true := by decide +kernel
theorem an_k_213 : an_chkM (an_m_213, 11, an_c_213) = true := an_chkM_of (by decide +kernel) (an_app an_k_213_0 (an_k_213_1))
theorem an_k_214_0 : an_chkP 11 prog_13_method_76_code false an_c_214_0 = true := by decide +kernel
theorem an_k_214_1 : an_chkP 11 prog_13_method_76_code false an_c_214_1 = true := by decide +kernel
theorem an_k_214_2 : an_chkP 11 prog_13_method_76_code false an_c_214_2 = true := by decide +kernel
theorem an_k_214 : an_chkM (an_m_214, 11, an_c_214) = true := an_chkM_of (by decide +kernel) (an_app an_k_214_0 (an_app an_k_214_1 (an_k_214_2)))
theorem an_k_215_0 : an_chkP 11 prog_13_method_84_code false an_c_215_0 = true := by decide +kernel
theorem an_k_215_1 : an_chkP 11 prog_13_method_84_code false an_c_215_1 = true := by decide +kernel
theorem an_k_215_2 : an_chkP 11 prog_13_method_84_code false an_c_215_2 = true := by decide +kernel
theorem an_k_215_3 : an_chkP 11 prog_13_method_84_code false an_c_215_3 = true := by decide +kernel
theorem an_k_215_4 : an_chkP 11 prog_13_method_84_code false an_c_215_4 = true := by decide +kernel
theorem an_k_215_5 : an_chkP 11 prog_13_method_84_code false an_c_215_5 = true := by decide +kernel
theorem an_k_215 : an_chkM (an_m_215, 11, an_c_215) = true := an_chkM_of (by decide +kernel) (an_app an_k_215_0 (an_app an_k_215_1 (an_app an_k_215_2 (an_app an_k_215_3 (an_app an_k_215_4 (an_k_215_5))))))
theorem an_k_216 : an_chkM (an_m_216, 11, an_c_216) = true := by decide +kernel
theorem an_ks_0 : ∀ q ∈ an_al_0, an_chkM q = true := List.forall_mem_cons.mpr ⟨an_k_0, List.forall_mem_cons.mpr ⟨an_k_1, List.forall_mem_cons.mpr ⟨an_k_2, List.forall_mem_cons.mpr ⟨an_k_3, List.forall_mem_cons.mpr ⟨an_k_4, List.forall_mem_cons.mpr ⟨an_k_5, List.forall_mem_cons.mpr ⟨an_k_6, List.forall_mem_cons.mpr ⟨an_k_7, List.forall_mem_cons.mpr ⟨an_k_8, List.forall_mem_cons.mpr ⟨an_k_9, List.forall_mem_cons.mpr ⟨an_k_10, List.forall_mem_cons.mpr ⟨an_k_11, List.forall_mem_cons.mpr ⟨an_k_12, List.forall_mem_cons.mpr ⟨an_k_13, List.forall_mem_cons.mpr ⟨an_k_14, List.forall_mem_cons.mpr ⟨an_k_15, List.forall_mem_cons.mpr ⟨an_k_16, List.forall_mem_cons.mpr ⟨an_k_17, List.forall_mem_cons.mpr ⟨an_k_18, List.forall_mem_cons.mpr ⟨an_k_19, List.forall_mem_cons.mpr ⟨an_k_20, List.forall_mem_cons.mpr ⟨an_k_21, List.forall_mem_cons.mpr ⟨an_k_22, List.forall_mem_cons.mpr ⟨an_k_23, List.forall_mem_cons.mpr ⟨an_k_24, List.forall_mem_cons.mpr ⟨an_k_25, List.forall_mem_cons.mpr ⟨an_k_26, List.forall_mem_cons.mpr ⟨an_k_27, List.forall_mem_cons.mpr ⟨an_k_28, List.forall_mem_cons.mpr ⟨an_k_29, fun _ h => absurd h List.not_mem_nil⟩⟩⟩⟩⟩⟩⟩⟩⟩⟩⟩⟩⟩⟩⟩⟩⟩⟩⟩⟩⟩⟩⟩⟩⟩⟩⟩⟩⟩⟩
theorem an_ks_1 : ∀ q ∈ an_al_1, an_chkM q = true := List.forall_mem_cons.mpr ⟨an_k_30, List.forall_mem_cons.mpr ⟨an_k_31, List.forall_mem_cons.mpr ⟨an_k_32, List.forall_mem_cons.mpr ⟨an_k_33, List.forall_mem_cons.mpr ⟨an_k_34, List.forall_mem_cons.mpr ⟨an_k_35, List.forall_mem_cons.mpr ⟨an_k_36, List.forall_mem_cons.mpr ⟨an_k_37, List.forall_mem_cons.mpr ⟨an_k_38, List.forall_mem_cons.mpr ⟨an_k_39, List.forall_mem_cons.mpr ⟨an_k_40, List.forall_mem_cons.mpr ⟨an_k_41, List.forall_mem_cons.mpr ⟨an_k_42, List.forall_mem_cons.mpr ⟨an_k_43, List.forall_mem_cons.mpr ⟨an_k_44, List.forall_mem_cons.mpr ⟨an_k_45, List.forall_mem_cons.mpr ⟨an_k_46, List.forall_mem_cons.mpr ⟨an_k_47, List.forall_mem_cons.mpr ⟨an_k_48, List.forall_mem_cons.mpr ⟨an_k_49, List.forall_mem_cons.mpr ⟨an_k_50, List.forall_mem_cons.mpr ⟨an_k_51, List.forall_mem_cons.mpr ⟨an_k_52, List.forall_mem_cons.mpr ⟨an_k_53, List.forall_mem_cons.mpr ⟨an_k_54, List.forall_mem_cons.mpr ⟨an_k_55, List.forall_mem_cons.mpr ⟨an_k_56, List.forall_mem_cons.mpr ⟨an_k_57, List.forall_mem_cons.mpr ⟨an_k_58, List.forall_mem_cons.mpr ⟨an_k_59, fun _ h => absurd h List.not_mem_nil⟩⟩⟩⟩⟩⟩⟩⟩⟩⟩⟩⟩⟩⟩⟩⟩⟩⟩⟩⟩⟩⟩⟩⟩⟩⟩⟩⟩⟩⟩
theorem an_ks_2 : ∀ q ∈ an_al_2, an_chkM q = true := List.forall_mem_cons.mpr ⟨an_k_60, List.forall_mem_cons.mpr ⟨an_k_61, List.forall_mem_cons.mpr ⟨an_k_62, List.forall_mem_cons.mpr ⟨an_k_63, List.forall_mem_cons.mpr ⟨an_k_64, List.forall_mem_cons.mpr ⟨an_k_65, List.forall_mem_cons.mpr ⟨an_k_66, List.forall_mem_cons.mpr ⟨an_k_67, List.forall_mem_cons.mpr ⟨an_k_68, List.forall_mem_cons.mpr ⟨an_k_69, List.forall_mem_cons.mpr ⟨an_k_70, List.forall_mem_cons.mpr ⟨an_k_71, List.forall_mem_cons.mpr ⟨an_k_72, List.forall_mem_cons.mpr ⟨an_k_73, List.forall_mem_cons.mpr ⟨an_k_74, List.forall_mem_cons.mpr ⟨an_k_75, List.forall_mem_cons.mpr ⟨an_k_76, List.forall_mem_cons.mpr ⟨an_k_77, List.forall_mem_cons.mpr ⟨an_k_78, List.forall_mem_cons.mpr ⟨an_k_79, List.forall_mem_cons.mpr ⟨an_k_80, List.forall_mem_cons.mpr ⟨an_k_81, List.forall_mem_cons.mpr ⟨an_k_82, List.forall_mem_cons.mpr ⟨an_k_83, List.forall_mem_cons.mpr ⟨an_k_84, List.forall_mem_cons.mpr ⟨an_k_85, List.forall_mem_cons.mpr ⟨an_k_86, List.forall_mem_cons.mpr ⟨an_k_87, List.forall_mem_cons.mpr ⟨an_k_88, List.forall_mem_cons.mpr ⟨an_k_89, fun _ h => absurd h List.not_mem_nil⟩⟩⟩⟩⟩⟩⟩⟩⟩⟩⟩⟩⟩⟩⟩⟩⟩⟩⟩⟩⟩⟩⟩⟩⟩⟩⟩⟩⟩⟩
theorem an_ks_3 : ∀ q ∈ an_al_3, an_chkM q = true := List.forall_mem_cons.mpr ⟨an_k_90, List.forall_mem_cons.mpr ⟨an_k_91, List.forall_mem_cons.mpr ⟨an_k_92, List.forall_mem_cons.mpr ⟨an_k_93, List.forall_mem_cons.mpr ⟨an_k_94, List.forall_mem_cons.mpr ⟨an_k_95, List.forall_mem_cons.mpr ⟨an_k_96, List.forall_mem_cons.mpr ⟨an_k_97, List.forall_mem_cons.mpr ⟨an_k_98, List.forall_mem_cons.mpr ⟨an_k_99, List.forall_mem_cons.mpr ⟨an_k_100, List.forall_mem_cons.mpr ⟨an_k_101, List.forall_mem_cons.mpr ⟨an_k_102, List.forall_mem_cons.mpr ⟨an_k_103, List.forall_mem_cons.mpr ⟨an_k_104, List.forall_mem_cons.mpr ⟨an_k_105, List.forall_mem_cons.mpr ⟨an_k_106, List.forall_mem_cons.mpr ⟨an_k_107, List.forall_mem_cons.mpr ⟨an_k_108, List.forall_mem_cons.mpr ⟨an_k_109, List.forall_mem_cons.mpr ⟨an_k_110, List.forall_mem_cons.mpr ⟨an_k_111, List.forall_mem_cons.mpr ⟨an_k_112, List.forall_mem_cons.mpr ⟨an_k_113, List.forall_mem_cons.mpr ⟨an_k_114, List.forall_mem_cons.mpr ⟨an_k_115, List.forall_mem_cons.mpr ⟨an_k_116, List.forall_mem_cons.mpr ⟨an_k_117, List.forall_mem_cons.mpr ⟨an_k_118, List.forall_mem_cons.mpr ⟨an_k_119, fun _ h => absurd h List.not_mem_nil⟩⟩⟩⟩⟩⟩⟩⟩⟩⟩⟩⟩⟩⟩⟩⟩⟩⟩⟩⟩⟩⟩⟩⟩⟩⟩⟩⟩⟩⟩
theorem an_ks_4 : ∀ q ∈ an_al_4, an_chkM q = true := List.forall_mem_cons.mpr ⟨an_k_120, List.forall_mem_cons.mpr ⟨an_k_121, List.forall_mem_cons.mpr ⟨an_k_122, List.forall_mem_cons.mpr ⟨an_k_123, List.forall_mem_cons.mpr ⟨an_k_124, List.forall_mem_cons.mpr ⟨an_k_125, List.forall_mem_cons.mpr ⟨an_k_126, List.forall_mem_cons.mpr ⟨an_k_127, List.forall_mem_cons.mpr ⟨an_k_128, List.forall_mem_cons.mpr ⟨an_k_129, List.forall_mem_cons.mpr ⟨an_k_130, List.forall_mem_cons.mpr ⟨an_k_131, List.forall_mem_cons.mpr ⟨an_k_132, List.forall_mem_cons.mpr ⟨an_k_133, List.forall_mem_cons.mpr ⟨an_k_134, List.forall_mem_cons.mpr ⟨an_k_135, List.forall_mem_cons.mpr ⟨an_k_136, List.forall_mem_cons.mpr ⟨an_k_137, List.forall_mem_cons.mpr ⟨an_k_138, List.forall_mem_cons.mpr ⟨an_k_139, List.forall_mem_cons.mpr ⟨an_k_140, List.forall_mem_cons.mpr ⟨an_k_141, List.forall_mem_cons.mpr ⟨an_k_142, List.forall_mem_cons.mpr ⟨an_k_143, List.forall_mem_cons.mpr ⟨an_k_144, List.forall_mem_cons.mpr ⟨an_k_145, List.forall_mem_cons.mpr ⟨an_k_146, List.forall_mem_cons.mpr ⟨an_k_147, List.forall_mem_cons.mpr ⟨an_k_148, List.forall_mem_cons.mpr ⟨an_k_149, fun _ h => absurd h List.not_mem_nil⟩⟩⟩⟩⟩⟩⟩⟩⟩⟩⟩⟩⟩⟩⟩⟩⟩⟩⟩⟩⟩⟩⟩⟩⟩⟩⟩⟩⟩⟩
theorem an_ks_5 : ∀ q ∈ an_al_5, an_chkM q = true := List.forall_mem_cons.mpr ⟨an_k_150, List.forall_mem_cons.mpr ⟨an_k_151, List.forall_mem_cons.mpr ⟨an_k_152, List.forall_mem_cons.mpr ⟨an_k_153, List.forall_mem_cons.mpr ⟨an_k_154, List.forall_mem_cons.mpr ⟨an_k_155, List.forall_mem_cons.mpr ⟨an_k_156, List.forall_mem_cons.mpr ⟨an_k_157, List.forall_mem_cons.mpr ⟨an_k_158, List.forall_mem_cons.mpr ⟨an_k_159, List.forall_mem_cons.mpr ⟨an_k_160, List.forall_mem_cons.mpr ⟨an_k_161, List.forall_mem_cons.mpr ⟨an_k_162, List.forall_mem_cons.mpr ⟨an_k_163, List.forall_mem_cons.mpr ⟨an_k_164, List.forall_mem_cons.mpr ⟨an_k_165, List.forall_mem_cons.mpr ⟨an_k_166, List.forall_mem_cons.mpr ⟨an_k_167, List.forall_mem_cons.mpr ⟨an_k_168, List.forall_mem_cons.mpr ⟨an_k_169, List.forall_mem_cons.mpr ⟨an_k_170, List.forall_mem_cons.mpr ⟨an_k_171, List.forall_mem_cons.mpr ⟨an_k_172, List.forall_mem_cons.mpr ⟨an_k_173, List.forall_mem_cons.mpr ⟨an_k_174, List.forall_mem_cons.mpr ⟨an_k_175, List.forall_mem_cons.mpr ⟨an_k_176, List.forall_mem_cons.mpr ⟨an_k_177, List.forall_mem_cons.mpr ⟨an_k_178, List.forall_mem_cons.mpr ⟨an_k_179, fun _ h => absurd h List.not_mem_nil⟩⟩⟩⟩⟩⟩⟩⟩⟩⟩⟩⟩⟩⟩⟩⟩⟩⟩⟩⟩⟩⟩⟩⟩⟩⟩⟩⟩⟩⟩
theorem an_ks_6 : ∀ q ∈ an_al_6, an_chkM q = true := List.forall_mem_cons.mpr ⟨an_k_180, List.forall_mem_cons.mpr ⟨an_k_181, List.forall_mem_cons.mpr ⟨an_k_182, List.forall_mem_cons.mpr ⟨an_k_183, List.forall_mem_cons.mpr ⟨an_k_184, List.forall_mem_cons.mpr ⟨an_k_185, List.forall_mem_cons.mpr ⟨an_k_186, List.forall_mem_cons.mpr ⟨an_k_187, List.forall_mem_cons.mpr ⟨an_k_188, List.forall_mem_cons.mpr ⟨an_k_189, List.forall_mem_cons.mpr ⟨an_k_190, List.forall_mem_cons.mpr ⟨an_k_191, List.forall_mem_cons.mpr ⟨an_k_192, List.forall_mem_cons.mpr ⟨an_k_193, List.forall_mem_cons.mpr ⟨an_k_194, List.forall_mem_cons.mpr ⟨an_k_195, List.forall_mem_cons.mpr ⟨an_k_196, List.forall_mem_cons.mpr ⟨an_k_197, List.forall_mem_cons.mpr ⟨an_k_198, List.forall_mem_cons.mpr ⟨an_k_199, List.forall_mem_cons.mpr ⟨an_k_200, List.forall_mem_cons.mpr ⟨an_k_201, List.forall_mem_cons.mpr ⟨an_k_202, List.forall_mem_cons.mpr ⟨an_k_203, List.forall_mem_cons.mpr ⟨an_k_204, List.forall_mem_cons.mpr ⟨an_k_205, List.forall_mem_cons.mpr ⟨an_k_206, List.forall_mem_cons.mpr ⟨an_k_207, List.forall_mem_cons.mpr ⟨an_k_208, List.forall_mem_cons.mpr ⟨an_k_209, fun _ h => absurd h List.not_mem_nil⟩⟩⟩⟩⟩⟩⟩⟩⟩⟩⟩⟩⟩⟩⟩⟩⟩⟩⟩⟩⟩⟩⟩⟩⟩⟩⟩⟩⟩⟩
theorem an_ks_7 : ∀ q ∈ an_al_7, an_chkM q = true := List.forall_mem_cons.mpr ⟨an_k_210, List.forall_mem_cons.mpr ⟨an_k_211, List.forall_mem_cons.mpr ⟨an_k_212, List.forall_mem_cons.mpr ⟨an_k_213, List.forall_mem_cons.mpr ⟨an_k_214, List.forall_mem_cons.mpr ⟨an_k_215, List.forall_mem_cons.mpr ⟨an_k_216, fun _ h => absurd h List.not_mem_nil⟩⟩⟩⟩⟩⟩⟩
