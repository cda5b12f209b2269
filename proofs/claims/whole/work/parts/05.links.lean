theorem wk_940 : Cond.fieldLink RJ0 38 "java/lang/String" "COMPACT_STRINGS" "Z" ∈ gwt := gw_r (i := 940) (by decide +kernel) (by decide +kernel)
theorem wk_1621 : Cond.fieldLink RJ0 15 "java/lang/String" "coder" "B" ∈ gwt := gw_r (i := 1621) (by decide +kernel) (by decide +kernel)
theorem wk_1620 : Cond.fieldLink RJ0 9 "java/lang/String" "value" "[B" ∈ gwt := gw_r (i := 1620) (by decide +kernel) (by decide +kernel)
theorem wk_956 : Cond.fieldLink RJ0 1053 "jdk/internal/util/Preconditions" "SIOOBE_FORMATTER" "Ljava/util/function/BiFunction;" ∈ gwt := gw_r (i := 956) (by decide +kernel) (by decide +kernel)
theorem wk_986 : Cond.fieldLink RX9 58 "ShedTalk$Text" "MOST_NUMBERS_OF" "[I" ∈ gwt := gw_r (i := 986) (by decide +kernel) (by decide +kernel)
theorem wk_984 : Cond.fieldLink RX9 55 "ShedTalk$Text" "LEAST_NUMBERS_OF" "[I" ∈ gwt := gw_r (i := 984) (by decide +kernel) (by decide +kernel)
theorem fdX1_30 : m_Fd RX1 30 1 0 .long false := ⟨RX1, TX1, 7, tyX1, rfl, by decide, kwX1, tyX1_ok, nmX1, wk_46, by decide +kernel, rfl, rfl⟩
theorem fdX11_314 : m_Fd RX11 314 1 0 .long false := ⟨RX1, TX1, 7, tyX1, rfl, by decide, kwX1, tyX1_ok, nmX1, wk_47, by decide +kernel, rfl, rfl⟩
theorem fdX1_34 : m_Fd RX1 34 1 1 .int false := ⟨RX1, TX1, 7, tyX1, rfl, by decide, kwX1, tyX1_ok, nmX1, wk_48, by decide +kernel, rfl, rfl⟩
theorem fdX5_31 : m_Fd RX5 31 1 1 .int false := ⟨RX1, TX1, 7, tyX1, rfl, by decide, kwX1, tyX1_ok, nmX1, wk_49, by decide +kernel, rfl, rfl⟩
theorem fdX10_31 : m_Fd RX10 31 1 1 .int false := ⟨RX1, TX1, 7, tyX1, rfl, by decide, kwX1, tyX1_ok, nmX1, wk_50, by decide +kernel, rfl, rfl⟩
theorem fdX11_144 : m_Fd RX11 144 1 1 .int false := ⟨RX1, TX1, 7, tyX1, rfl, by decide, kwX1, tyX1_ok, nmX1, wk_51, by decide +kernel, rfl, rfl⟩
theorem fdX1_11 : m_Fd RX1 11 1 2 (.array .int) true := ⟨RX1, TX1, 7, tyX1, rfl, by decide, kwX1, tyX1_ok, nmX1, wk_52, by decide +kernel, rfl, rfl⟩
theorem fdX1_15 : m_Fd RX1 15 1 3 (.array .int) true := ⟨RX1, TX1, 7, tyX1, rfl, by decide, kwX1, tyX1_ok, nmX1, wk_53, by decide +kernel, rfl, rfl⟩
theorem fdX1_18 : m_Fd RX1 18 1 4 (.array .int) true := ⟨RX1, TX1, 7, tyX1, rfl, by decide, kwX1, tyX1_ok, nmX1, wk_54, by decide +kernel, rfl, rfl⟩
theorem fdX1_21 : m_Fd RX1 21 1 5 (.array .int) true := ⟨RX1, TX1, 7, tyX1, rfl, by decide, kwX1, tyX1_ok, nmX1, wk_55, by decide +kernel, rfl, rfl⟩
theorem fdX1_24 : m_Fd RX1 24 1 6 (.array .int) true := ⟨RX1, TX1, 7, tyX1, rfl, by decide, kwX1, tyX1_ok, nmX1, wk_56, by decide +kernel, rfl, rfl⟩
theorem fdX8_21 : m_Fd RX8 21 8 0 .int false := ⟨RX8, TX8, 4, tyX8, rfl, by decide, kwX8, tyX8_ok, nmX8, wk_79, by decide +kernel, rfl, rfl⟩
theorem fdX7_60 : m_Fd RX7 60 8 0 .int false := ⟨RX8, TX8, 4, tyX8, rfl, by decide, kwX8, tyX8_ok, nmX8, wk_80, by decide +kernel, rfl, rfl⟩
theorem fdX11_323 : m_Fd RX11 323 8 0 .int false := ⟨RX8, TX8, 4, tyX8, rfl, by decide, kwX8, tyX8_ok, nmX8, wk_81, by decide +kernel, rfl, rfl⟩
theorem fdX8_11 : m_Fd RX8 11 8 1 (.array .int) true := ⟨RX8, TX8, 4, tyX8, rfl, by decide, kwX8, tyX8_ok, nmX8, wk_82, by decide +kernel, rfl, rfl⟩
theorem fdX8_15 : m_Fd RX8 15 8 2 (.array .int) true := ⟨RX8, TX8, 4, tyX8, rfl, by decide, kwX8, tyX8_ok, nmX8, wk_83, by decide +kernel, rfl, rfl⟩
theorem fdX8_18 : m_Fd RX8 18 8 3 (.array .int) true := ⟨RX8, TX8, 4, tyX8, rfl, by decide, kwX8, tyX8_ok, nmX8, wk_84, by decide +kernel, rfl, rfl⟩
theorem fdX3_36 : m_Fd RX3 36 3 0 .int false := ⟨RX3, TX3, 10, tyX3, rfl, by decide, kwX3, tyX3_ok, nmX3, wk_104, by decide +kernel, rfl, rfl⟩
theorem fdX0_43 : m_Fd RX0 43 3 0 .int false := ⟨RX3, TX3, 10, tyX3, rfl, by decide, kwX3, tyX3_ok, nmX3, wk_105, by decide +kernel, rfl, rfl⟩
theorem fdX6_30 : m_Fd RX6 30 3 0 .int false := ⟨RX3, TX3, 10, tyX3, rfl, by decide, kwX3, tyX3_ok, nmX3, wk_106, by decide +kernel, rfl, rfl⟩
theorem fdX11_202 : m_Fd RX11 202 3 0 .int false := ⟨RX3, TX3, 10, tyX3, rfl, by decide, kwX3, tyX3_ok, nmX3, wk_107, by decide +kernel, rfl, rfl⟩
theorem fdX3_11 : m_Fd RX3 11 3 1 (.array .int) true := ⟨RX3, TX3, 10, tyX3, rfl, by decide, kwX3, tyX3_ok, nmX3, wk_108, by decide +kernel, rfl, rfl⟩
theorem fdX0_48 : m_Fd RX0 48 3 1 (.array .int) true := ⟨RX3, TX3, 10, tyX3, rfl, by decide, kwX3, tyX3_ok, nmX3, wk_109, by decide +kernel, rfl, rfl⟩
theorem fdX6_37 : m_Fd RX6 37 3 1 (.array .int) true := ⟨RX3, TX3, 10, tyX3, rfl, by decide, kwX3, tyX3_ok, nmX3, wk_110, by decide +kernel, rfl, rfl⟩
theorem fdX3_15 : m_Fd RX3 15 3 2 (.array .int) true := ⟨RX3, TX3, 10, tyX3, rfl, by decide, kwX3, tyX3_ok, nmX3, wk_111, by decide +kernel, rfl, rfl⟩
theorem fdX3_18 : m_Fd RX3 18 3 3 (.array .int) true := ⟨RX3, TX3, 10, tyX3, rfl, by decide, kwX3, tyX3_ok, nmX3, wk_112, by decide +kernel, rfl, rfl⟩
theorem fdX0_51 : m_Fd RX0 51 3 3 (.array .int) true := ⟨RX3, TX3, 10, tyX3, rfl, by decide, kwX3, tyX3_ok, nmX3, wk_113, by decide +kernel, rfl, rfl⟩
theorem fdX6_40 : m_Fd RX6 40 3 3 (.array .int) true := ⟨RX3, TX3, 10, tyX3, rfl, by decide, kwX3, tyX3_ok, nmX3, wk_114, by decide +kernel, rfl, rfl⟩
theorem fdX3_21 : m_Fd RX3 21 3 4 (.array .int) true := ⟨RX3, TX3, 10, tyX3, rfl, by decide, kwX3, tyX3_ok, nmX3, wk_115, by decide +kernel, rfl, rfl⟩
theorem fdX3_24 : m_Fd RX3 24 3 5 (.array .int) true := ⟨RX3, TX3, 10, tyX3, rfl, by decide, kwX3, tyX3_ok, nmX3, wk_116, by decide +kernel, rfl, rfl⟩
theorem fdX6_26 : m_Fd RX6 26 3 6 .int false := ⟨RX3, TX3, 10, tyX3, rfl, by decide, kwX3, tyX3_ok, nmX3, wk_117, by decide +kernel, rfl, rfl⟩
theorem fdX3_40 : m_Fd RX3 40 3 6 .int false := ⟨RX3, TX3, 10, tyX3, rfl, by decide, kwX3, tyX3_ok, nmX3, wk_118, by decide +kernel, rfl, rfl⟩
theorem fdX11_178 : m_Fd RX11 178 3 6 .int false := ⟨RX3, TX3, 10, tyX3, rfl, by decide, kwX3, tyX3_ok, nmX3, wk_119, by decide +kernel, rfl, rfl⟩
theorem fdX3_43 : m_Fd RX3 43 3 7 .int false := ⟨RX3, TX3, 10, tyX3, rfl, by decide, kwX3, tyX3_ok, nmX3, wk_120, by decide +kernel, rfl, rfl⟩
theorem fdX11_225 : m_Fd RX11 225 3 7 .int false := ⟨RX3, TX3, 10, tyX3, rfl, by decide, kwX3, tyX3_ok, nmX3, wk_121, by decide +kernel, rfl, rfl⟩
theorem fdX3_27 : m_Fd RX3 27 3 8 (.array .int) true := ⟨RX3, TX3, 10, tyX3, rfl, by decide, kwX3, tyX3_ok, nmX3, wk_122, by decide +kernel, rfl, rfl⟩
theorem fdX3_30 : m_Fd RX3 30 3 9 (.array .int) true := ⟨RX3, TX3, 10, tyX3, rfl, by decide, kwX3, tyX3_ok, nmX3, wk_123, by decide +kernel, rfl, rfl⟩
theorem fdX7_10 : m_Fd RX7 10 7 0 (.object "ShedTalk$Floor") true := ⟨RX7, TX7, 7, tyX7, rfl, by decide, kwX7, tyX7_ok, nmX7, wk_145, by decide +kernel, rfl, rfl⟩
theorem fdX11_70 : m_Fd RX11 70 7 0 (.object "ShedTalk$Floor") true := ⟨RX7, TX7, 7, tyX7, rfl, by decide, kwX7, tyX7_ok, nmX7, wk_146, by decide +kernel, rfl, rfl⟩
theorem fdX9_110 : m_Fd RX9 110 7 0 (.object "ShedTalk$Floor") true := ⟨RX7, TX7, 7, tyX7, rfl, by decide, kwX7, tyX7_ok, nmX7, wk_147, by decide +kernel, rfl, rfl⟩
theorem fdX7_19 : m_Fd RX7 19 7 1 (.object "ShedTalk$Sightings") true := ⟨RX7, TX7, 7, tyX7, rfl, by decide, kwX7, tyX7_ok, nmX7, wk_148, by decide +kernel, rfl, rfl⟩
theorem fdX11_134 : m_Fd RX11 134 7 1 (.object "ShedTalk$Sightings") true := ⟨RX7, TX7, 7, tyX7, rfl, by decide, kwX7, tyX7_ok, nmX7, wk_149, by decide +kernel, rfl, rfl⟩
theorem fdX7_26 : m_Fd RX7 26 7 2 (.object "ShedTalk$Lexicon") true := ⟨RX7, TX7, 7, tyX7, rfl, by decide, kwX7, tyX7_ok, nmX7, wk_150, by decide +kernel, rfl, rfl⟩
theorem fdX9_136 : m_Fd RX9 136 7 2 (.object "ShedTalk$Lexicon") true := ⟨RX7, TX7, 7, tyX7, rfl, by decide, kwX7, tyX7_ok, nmX7, wk_151, by decide +kernel, rfl, rfl⟩
theorem fdX11_156 : m_Fd RX11 156 7 2 (.object "ShedTalk$Lexicon") true := ⟨RX7, TX7, 7, tyX7, rfl, by decide, kwX7, tyX7_ok, nmX7, wk_152, by decide +kernel, rfl, rfl⟩
theorem fdX7_30 : m_Fd RX7 30 7 3 (.array .int) true := ⟨RX7, TX7, 7, tyX7, rfl, by decide, kwX7, tyX7_ok, nmX7, wk_153, by decide +kernel, rfl, rfl⟩
theorem fdX11_249 : m_Fd RX11 249 7 3 (.array .int) true := ⟨RX7, TX7, 7, tyX7, rfl, by decide, kwX7, tyX7_ok, nmX7, wk_154, by decide +kernel, rfl, rfl⟩
theorem fdX7_34 : m_Fd RX7 34 7 4 (.array .int) true := ⟨RX7, TX7, 7, tyX7, rfl, by decide, kwX7, tyX7_ok, nmX7, wk_155, by decide +kernel, rfl, rfl⟩
theorem fdX11_252 : m_Fd RX11 252 7 4 (.array .int) true := ⟨RX7, TX7, 7, tyX7, rfl, by decide, kwX7, tyX7_ok, nmX7, wk_156, by decide +kernel, rfl, rfl⟩
theorem fdX7_37 : m_Fd RX7 37 7 5 .int false := ⟨RX7, TX7, 7, tyX7, rfl, by decide, kwX7, tyX7_ok, nmX7, wk_157, by decide +kernel, rfl, rfl⟩
theorem fdX11_208 : m_Fd RX11 208 7 5 .int false := ⟨RX7, TX7, 7, tyX7, rfl, by decide, kwX7, tyX7_ok, nmX7, wk_158, by decide +kernel, rfl, rfl⟩
theorem fdX11_310 : m_Fd RX11 310 7 6 .boolean false := ⟨RX7, TX7, 7, tyX7, rfl, by decide, kwX7, tyX7_ok, nmX7, wk_159, by decide +kernel, rfl, rfl⟩
theorem fdX5_11 : m_Fd RX5 11 5 0 (.array .int) true := ⟨RX5, TX5, 3, tyX5, rfl, by decide, kwX5, tyX5_ok, nmX5, wk_181, by decide +kernel, rfl, rfl⟩
theorem fdX8_41 : m_Fd RX8 41 5 0 (.array .int) true := ⟨RX5, TX5, 3, tyX5, rfl, by decide, kwX5, tyX5_ok, nmX5, wk_182, by decide +kernel, rfl, rfl⟩
theorem fdX11_120 : m_Fd RX11 120 5 0 (.array .int) true := ⟨RX5, TX5, 3, tyX5, rfl, by decide, kwX5, tyX5_ok, nmX5, wk_183, by decide +kernel, rfl, rfl⟩
theorem fdX5_17 : m_Fd RX5 17 5 1 (.array .int) true := ⟨RX5, TX5, 3, tyX5, rfl, by decide, kwX5, tyX5_ok, nmX5, wk_184, by decide +kernel, rfl, rfl⟩
theorem fdX11_124 : m_Fd RX11 124 5 1 (.array .int) true := ⟨RX5, TX5, 3, tyX5, rfl, by decide, kwX5, tyX5_ok, nmX5, wk_185, by decide +kernel, rfl, rfl⟩
theorem fdX5_20 : m_Fd RX5 20 5 2 (.array .int) true := ⟨RX5, TX5, 3, tyX5, rfl, by decide, kwX5, tyX5_ok, nmX5, wk_186, by decide +kernel, rfl, rfl⟩
theorem fdX6_11 : m_Fd RX6 11 6 0 (.array .int) true := ⟨RX6, TX6, 4, tyX6, rfl, by decide, kwX6, tyX6_ok, nmX6, wk_200, by decide +kernel, rfl, rfl⟩
theorem fdX6_17 : m_Fd RX6 17 6 1 (.array .int) true := ⟨RX6, TX6, 4, tyX6, rfl, by decide, kwX6, tyX6_ok, nmX6, wk_201, by decide +kernel, rfl, rfl⟩
theorem fdX6_20 : m_Fd RX6 20 6 2 (.array .int) true := ⟨RX6, TX6, 4, tyX6, rfl, by decide, kwX6, tyX6_ok, nmX6, wk_202, by decide +kernel, rfl, rfl⟩
theorem fdX6_23 : m_Fd RX6 23 6 3 (.array .int) true := ⟨RX6, TX6, 4, tyX6, rfl, by decide, kwX6, tyX6_ok, nmX6, wk_203, by decide +kernel, rfl, rfl⟩
theorem fdX4_11 : m_Fd RX4 11 4 0 (.array .int) true := ⟨RX4, TX4, 2, tyX4, rfl, by decide, kwX4, tyX4_ok, nmX4, wk_228, by decide +kernel, rfl, rfl⟩
theorem fdX4_15 : m_Fd RX4 15 4 1 .int false := ⟨RX4, TX4, 2, tyX4, rfl, by decide, kwX4, tyX4_ok, nmX4, wk_229, by decide +kernel, rfl, rfl⟩
theorem fdX2_23 : m_Fd RX2 23 4 1 .int false := ⟨RX4, TX4, 2, tyX4, rfl, by decide, kwX4, tyX4_ok, nmX4, wk_230, by decide +kernel, rfl, rfl⟩
theorem fdX0_78 : m_Fd RX0 78 4 1 .int false := ⟨RX4, TX4, 2, tyX4, rfl, by decide, kwX4, tyX4_ok, nmX4, wk_231, by decide +kernel, rfl, rfl⟩
theorem fdX11_295 : m_Fd RX11 295 4 1 .int false := ⟨RX4, TX4, 2, tyX4, rfl, by decide, kwX4, tyX4_ok, nmX4, wk_232, by decide +kernel, rfl, rfl⟩
theorem fdX0_11 : m_Fd RX0 11 0 0 (.array (.array .int)) true := ⟨RX0, TX0, 9, tyX0, rfl, by decide, kwX0, tyX0_ok, nmX0, wk_238, by decide +kernel, rfl, rfl⟩
theorem fdX0_16 : m_Fd RX0 16 0 1 (.array .int) true := ⟨RX0, TX0, 9, tyX0, rfl, by decide, kwX0, tyX0_ok, nmX0, wk_239, by decide +kernel, rfl, rfl⟩
theorem fdX0_20 : m_Fd RX0 20 0 2 (.array .int) true := ⟨RX0, TX0, 9, tyX0, rfl, by decide, kwX0, tyX0_ok, nmX0, wk_240, by decide +kernel, rfl, rfl⟩
theorem fdX0_25 : m_Fd RX0 25 0 3 (.array (.object "ShedTalk$Natural")) true := ⟨RX0, TX0, 9, tyX0, rfl, by decide, kwX0, tyX0_ok, nmX0, wk_241, by decide +kernel, rfl, rfl⟩
theorem fdX0_29 : m_Fd RX0 29 0 4 (.array (.object "ShedTalk$Natural")) true := ⟨RX0, TX0, 9, tyX0, rfl, by decide, kwX0, tyX0_ok, nmX0, wk_242, by decide +kernel, rfl, rfl⟩
theorem fdX0_33 : m_Fd RX0 33 0 5 (.object "ShedTalk$Natural") true := ⟨RX0, TX0, 9, tyX0, rfl, by decide, kwX0, tyX0_ok, nmX0, wk_243, by decide +kernel, rfl, rfl⟩
theorem fdX0_37 : m_Fd RX0 37 0 6 (.object "ShedTalk$Natural") true := ⟨RX0, TX0, 9, tyX0, rfl, by decide, kwX0, tyX0_ok, nmX0, wk_244, by decide +kernel, rfl, rfl⟩
theorem fdX0_40 : m_Fd RX0 40 0 7 (.object "ShedTalk$Natural") true := ⟨RX0, TX0, 9, tyX0, rfl, by decide, kwX0, tyX0_ok, nmX0, wk_245, by decide +kernel, rfl, rfl⟩
theorem fdX0_47 : m_Fd RX0 47 0 8 .int false := ⟨RX0, TX0, 9, tyX0, rfl, by decide, kwX0, tyX0_ok, nmX0, wk_246, by decide +kernel, rfl, rfl⟩
theorem fdX10_51 : m_Fd RX10 51 10 0 .int false := ⟨RX10, TX10, 6, tyX10, rfl, by decide, kwX10, tyX10_ok, nmX10, wk_272, by decide +kernel, rfl, rfl⟩
theorem fdX11_259 : m_Fd RX11 259 10 0 .int false := ⟨RX10, TX10, 6, tyX10, rfl, by decide, kwX10, tyX10_ok, nmX10, wk_273, by decide +kernel, rfl, rfl⟩
theorem fdX10_11 : m_Fd RX10 11 10 1 (.array .int) true := ⟨RX10, TX10, 6, tyX10, rfl, by decide, kwX10, tyX10_ok, nmX10, wk_274, by decide +kernel, rfl, rfl⟩
theorem fdX10_15 : m_Fd RX10 15 10 2 (.array .int) true := ⟨RX10, TX10, 6, tyX10, rfl, by decide, kwX10, tyX10_ok, nmX10, wk_275, by decide +kernel, rfl, rfl⟩
theorem fdX10_18 : m_Fd RX10 18 10 3 (.array .int) true := ⟨RX10, TX10, 6, tyX10, rfl, by decide, kwX10, tyX10_ok, nmX10, wk_276, by decide +kernel, rfl, rfl⟩
theorem fdX10_21 : m_Fd RX10 21 10 4 (.array .int) true := ⟨RX10, TX10, 6, tyX10, rfl, by decide, kwX10, tyX10_ok, nmX10, wk_277, by decide +kernel, rfl, rfl⟩
theorem fdX10_24 : m_Fd RX10 24 10 5 (.array .int) true := ⟨RX10, TX10, 6, tyX10, rfl, by decide, kwX10, tyX10_ok, nmX10, wk_278, by decide +kernel, rfl, rfl⟩
theorem fdX9_30 : m_Fd RX9 30 9 0 .int false := ⟨RX9, TX9, 10, tyX9, rfl, by decide, kwX9, tyX9_ok, nmX9, wk_299, by decide +kernel, rfl, rfl⟩
theorem fdX11_268 : m_Fd RX11 268 9 0 .int false := ⟨RX9, TX9, 10, tyX9, rfl, by decide, kwX9, tyX9_ok, nmX9, wk_300, by decide +kernel, rfl, rfl⟩
theorem fdX9_36 : m_Fd RX9 36 9 1 .int false := ⟨RX9, TX9, 10, tyX9, rfl, by decide, kwX9, tyX9_ok, nmX9, wk_301, by decide +kernel, rfl, rfl⟩
theorem fdX11_281 : m_Fd RX11 281 9 1 .int false := ⟨RX9, TX9, 10, tyX9, rfl, by decide, kwX9, tyX9_ok, nmX9, wk_302, by decide +kernel, rfl, rfl⟩
theorem fdX9_11 : m_Fd RX9 11 9 2 (.array .int) true := ⟨RX9, TX9, 10, tyX9, rfl, by decide, kwX9, tyX9_ok, nmX9, wk_303, by decide +kernel, rfl, rfl⟩
theorem fdX9_15 : m_Fd RX9 15 9 3 (.array .int) true := ⟨RX9, TX9, 10, tyX9, rfl, by decide, kwX9, tyX9_ok, nmX9, wk_304, by decide +kernel, rfl, rfl⟩
theorem fdX9_18 : m_Fd RX9 18 9 4 (.array .int) true := ⟨RX9, TX9, 10, tyX9, rfl, by decide, kwX9, tyX9_ok, nmX9, wk_305, by decide +kernel, rfl, rfl⟩
theorem fdX9_23 : m_Fd RX9 23 9 5 (.array (.array .int)) true := ⟨RX9, TX9, 10, tyX9, rfl, by decide, kwX9, tyX9_ok, nmX9, wk_306, by decide +kernel, rfl, rfl⟩
theorem fdX9_39 : m_Fd RX9 39 9 6 .int false := ⟨RX9, TX9, 10, tyX9, rfl, by decide, kwX9, tyX9_ok, nmX9, wk_307, by decide +kernel, rfl, rfl⟩
theorem fdX9_45 : m_Fd RX9 45 9 7 .int false := ⟨RX9, TX9, 10, tyX9, rfl, by decide, kwX9, tyX9_ok, nmX9, wk_308, by decide +kernel, rfl, rfl⟩
theorem fdX9_48 : m_Fd RX9 48 9 8 .int false := ⟨RX9, TX9, 10, tyX9, rfl, by decide, kwX9, tyX9_ok, nmX9, wk_309, by decide +kernel, rfl, rfl⟩
theorem fdX9_61 : m_Fd RX9 61 9 9 .int false := ⟨RX9, TX9, 10, tyX9, rfl, by decide, kwX9, tyX9_ok, nmX9, wk_310, by decide +kernel, rfl, rfl⟩
theorem fdX2_10 : m_Fd RX2 10 2 0 (.object "ShedTalk$Natural") true := ⟨RX2, TX2, 2, tyX2, rfl, by decide, kwX2, tyX2_ok, nmX2, wk_344, by decide +kernel, rfl, rfl⟩
theorem fdX11_291 : m_Fd RX11 291 2 0 (.object "ShedTalk$Natural") true := ⟨RX2, TX2, 2, tyX2, rfl, by decide, kwX2, tyX2_ok, nmX2, wk_345, by decide +kernel, rfl, rfl⟩
theorem fdX2_16 : m_Fd RX2 16 2 1 (.object "ShedTalk$Natural") true := ⟨RX2, TX2, 2, tyX2, rfl, by decide, kwX2, tyX2_ok, nmX2, wk_346, by decide +kernel, rfl, rfl⟩
theorem fdX11_300 : m_Fd RX11 300 2 1 (.object "ShedTalk$Natural") true := ⟨RX2, TX2, 2, tyX2, rfl, by decide, kwX2, tyX2_ok, nmX2, wk_347, by decide +kernel, rfl, rfl⟩
theorem fdX11_10 : m_Fd RX11 10 11 0 (.object "ShedTalk$Shed") true := ⟨RX11, TX11, 11, tyX11, rfl, by decide, kwX11, tyX11_ok, nmX11, wk_353, by decide +kernel, rfl, rfl⟩
theorem fdX11_16 : m_Fd RX11 16 11 1 (.object "ShedTalk$Shed") true := ⟨RX11, TX11, 11, tyX11, rfl, by decide, kwX11, tyX11_ok, nmX11, wk_354, by decide +kernel, rfl, rfl⟩
theorem fdX11_19 : m_Fd RX11 19 11 2 (.object "ShedTalk$Shed") true := ⟨RX11, TX11, 11, tyX11, rfl, by decide, kwX11, tyX11_ok, nmX11, wk_355, by decide +kernel, rfl, rfl⟩
theorem fdX11_22 : m_Fd RX11 22 11 3 (.object "ShedTalk$Shed") true := ⟨RX11, TX11, 11, tyX11, rfl, by decide, kwX11, tyX11_ok, nmX11, wk_356, by decide +kernel, rfl, rfl⟩
theorem fdX11_28 : m_Fd RX11 28 11 4 (.object "ShedTalk$News") true := ⟨RX11, TX11, 11, tyX11, rfl, by decide, kwX11, tyX11_ok, nmX11, wk_357, by decide +kernel, rfl, rfl⟩
theorem fdX11_32 : m_Fd RX11 32 11 5 (.object "ShedTalk$News") true := ⟨RX11, TX11, 11, tyX11, rfl, by decide, kwX11, tyX11_ok, nmX11, wk_358, by decide +kernel, rfl, rfl⟩
theorem fdX11_38 : m_Fd RX11 38 11 6 (.object "ShedTalk$Readings") true := ⟨RX11, TX11, 11, tyX11, rfl, by decide, kwX11, tyX11_ok, nmX11, wk_359, by decide +kernel, rfl, rfl⟩
theorem fdX11_45 : m_Fd RX11 45 11 7 (.object "ShedTalk$Chances") true := ⟨RX11, TX11, 11, tyX11, rfl, by decide, kwX11, tyX11_ok, nmX11, wk_360, by decide +kernel, rfl, rfl⟩
theorem fdX11_52 : m_Fd RX11 52 11 8 (.object "ShedTalk$Turning") true := ⟨RX11, TX11, 11, tyX11, rfl, by decide, kwX11, tyX11_ok, nmX11, wk_361, by decide +kernel, rfl, rfl⟩
theorem fdX11_59 : m_Fd RX11 59 11 9 (.object "ShedTalk$Text") true := ⟨RX11, TX11, 11, tyX11, rfl, by decide, kwX11, tyX11_ok, nmX11, wk_362, by decide +kernel, rfl, rfl⟩
theorem fdX11_66 : m_Fd RX11 66 11 10 (.object "ShedTalk$Fraction") true := ⟨RX11, TX11, 11, tyX11, rfl, by decide, kwX11, tyX11_ok, nmX11, wk_363, by decide +kernel, rfl, rfl⟩
theorem fdX12_7 : m_Fd RX12 7 12 0 (.array .int) true := ⟨RX12, TX12, 26, tyX12, rfl, by decide, kwX12, tyX12_ok, nmX12, wk_1124, by decide +kernel, rfl, rfl⟩
theorem fdX12_13 : m_Fd RX12 13 12 1 (.array .int) true := ⟨RX12, TX12, 26, tyX12, rfl, by decide, kwX12, tyX12_ok, nmX12, wk_1125, by decide +kernel, rfl, rfl⟩
theorem fdX12_16 : m_Fd RX12 16 12 2 (.array .boolean) true := ⟨RX12, TX12, 26, tyX12, rfl, by decide, kwX12, tyX12_ok, nmX12, wk_1126, by decide +kernel, rfl, rfl⟩
theorem fdX12_20 : m_Fd RX12 20 12 3 (.array .int) true := ⟨RX12, TX12, 26, tyX12, rfl, by decide, kwX12, tyX12_ok, nmX12, wk_1127, by decide +kernel, rfl, rfl⟩
theorem fdX12_23 : m_Fd RX12 23 12 4 (.array .int) true := ⟨RX12, TX12, 26, tyX12, rfl, by decide, kwX12, tyX12_ok, nmX12, wk_1128, by decide +kernel, rfl, rfl⟩
theorem fdX12_26 : m_Fd RX12 26 12 5 (.array .int) true := ⟨RX12, TX12, 26, tyX12, rfl, by decide, kwX12, tyX12_ok, nmX12, wk_1129, by decide +kernel, rfl, rfl⟩
theorem fdX12_29 : m_Fd RX12 29 12 6 (.array .boolean) true := ⟨RX12, TX12, 26, tyX12, rfl, by decide, kwX12, tyX12_ok, nmX12, wk_1130, by decide +kernel, rfl, rfl⟩
theorem fdX12_32 : m_Fd RX12 32 12 7 (.array .boolean) true := ⟨RX12, TX12, 26, tyX12, rfl, by decide, kwX12, tyX12_ok, nmX12, wk_1131, by decide +kernel, rfl, rfl⟩
theorem fdX12_35 : m_Fd RX12 35 12 8 (.array .int) true := ⟨RX12, TX12, 26, tyX12, rfl, by decide, kwX12, tyX12_ok, nmX12, wk_1132, by decide +kernel, rfl, rfl⟩
theorem fdX12_38 : m_Fd RX12 38 12 9 (.array .int) true := ⟨RX12, TX12, 26, tyX12, rfl, by decide, kwX12, tyX12_ok, nmX12, wk_1133, by decide +kernel, rfl, rfl⟩
theorem fdX12_41 : m_Fd RX12 41 12 10 (.array .int) true := ⟨RX12, TX12, 26, tyX12, rfl, by decide, kwX12, tyX12_ok, nmX12, wk_1134, by decide +kernel, rfl, rfl⟩
theorem fdX12_44 : m_Fd RX12 44 12 11 (.array .int) true := ⟨RX12, TX12, 26, tyX12, rfl, by decide, kwX12, tyX12_ok, nmX12, wk_1135, by decide +kernel, rfl, rfl⟩
theorem fdX12_47 : m_Fd RX12 47 12 12 (.array .int) true := ⟨RX12, TX12, 26, tyX12, rfl, by decide, kwX12, tyX12_ok, nmX12, wk_1136, by decide +kernel, rfl, rfl⟩
theorem fdX12_50 : m_Fd RX12 50 12 13 (.array .int) true := ⟨RX12, TX12, 26, tyX12, rfl, by decide, kwX12, tyX12_ok, nmX12, wk_1137, by decide +kernel, rfl, rfl⟩
theorem fdX12_53 : m_Fd RX12 53 12 14 (.array .int) true := ⟨RX12, TX12, 26, tyX12, rfl, by decide, kwX12, tyX12_ok, nmX12, wk_1138, by decide +kernel, rfl, rfl⟩
theorem fdX12_56 : m_Fd RX12 56 12 15 (.array .int) true := ⟨RX12, TX12, 26, tyX12, rfl, by decide, kwX12, tyX12_ok, nmX12, wk_1139, by decide +kernel, rfl, rfl⟩
theorem fdX12_59 : m_Fd RX12 59 12 16 (.array .int) true := ⟨RX12, TX12, 26, tyX12, rfl, by decide, kwX12, tyX12_ok, nmX12, wk_1140, by decide +kernel, rfl, rfl⟩
theorem fdX12_271 : m_Fd RX12 271 12 17 .int false := ⟨RX12, TX12, 26, tyX12, rfl, by decide, kwX12, tyX12_ok, nmX12, wk_1141, by decide +kernel, rfl, rfl⟩
theorem fdX12_277 : m_Fd RX12 277 12 18 .int false := ⟨RX12, TX12, 26, tyX12, rfl, by decide, kwX12, tyX12_ok, nmX12, wk_1142, by decide +kernel, rfl, rfl⟩
theorem fdX12_297 : m_Fd RX12 297 12 19 .int false := ⟨RX12, TX12, 26, tyX12, rfl, by decide, kwX12, tyX12_ok, nmX12, wk_1143, by decide +kernel, rfl, rfl⟩
theorem fdX12_300 : m_Fd RX12 300 12 20 .int false := ⟨RX12, TX12, 26, tyX12, rfl, by decide, kwX12, tyX12_ok, nmX12, wk_1144, by decide +kernel, rfl, rfl⟩
theorem fdX12_311 : m_Fd RX12 311 12 21 .int false := ⟨RX12, TX12, 26, tyX12, rfl, by decide, kwX12, tyX12_ok, nmX12, wk_1145, by decide +kernel, rfl, rfl⟩
theorem fdX12_62 : m_Fd RX12 62 12 22 (.array .int) true := ⟨RX12, TX12, 26, tyX12, rfl, by decide, kwX12, tyX12_ok, nmX12, wk_1146, by decide +kernel, rfl, rfl⟩
theorem fdX12_65 : m_Fd RX12 65 12 23 (.array .int) true := ⟨RX12, TX12, 26, tyX12, rfl, by decide, kwX12, tyX12_ok, nmX12, wk_1147, by decide +kernel, rfl, rfl⟩
theorem fdX12_68 : m_Fd RX12 68 12 24 (.array .int) true := ⟨RX12, TX12, 26, tyX12, rfl, by decide, kwX12, tyX12_ok, nmX12, wk_1148, by decide +kernel, rfl, rfl⟩
theorem fdX12_317 : m_Fd RX12 317 12 25 .int false := ⟨RX12, TX12, 26, tyX12, rfl, by decide, kwX12, tyX12_ok, nmX12, wk_1149, by decide +kernel, rfl, rfl⟩
theorem lkX1_27 : m_LkV RX1 27 yX1_makeEmpty cX1_makeEmpty 1 none 0 := m_lkV wk_42 wk_43 wk_44 wk_3 wk_45 (by decide +kernel)
theorem lkX3_33 : m_LkV RX3 33 yX3_makeEmpty cX3_makeEmpty 2 none 0 := m_lkV wk_100 wk_101 wk_102 wk_5 wk_103 (by decide +kernel)
theorem lkX2_19 : m_LkV RX2 19 yX4_put cX4_put 2 none 1 := m_lkV wk_340 wk_341 wk_342 wk_9 wk_343 (by decide +kernel)
theorem lkL_13 : m_LkV RL 13 yX11_pillar cX11_pillar 2 (some .int) 1 := m_lkV wk_387 wk_388 wk_389 wk_1 wk_390 (by decide +kernel)
theorem lkX11_74 : m_LkV RX11 74 yX1_putPillar cX1_putPillar 2 (some .int) 1 := m_lkV wk_391 wk_392 wk_393 wk_3 wk_394 (by decide +kernel)
theorem lkX1_44 : m_LkN RX1 44 yX11_within RX11 cX11_within 3 (some .boolean) 3 := m_lkN nw_8 wk_396 wk_1 wk_397 (by decide +kernel)
theorem lkX1_52 : m_LkV RX1 52 yX1_hasWeaver cX1_hasWeaver 3 (some .boolean) 1 := m_lkV wk_398 wk_399 wk_400 wk_3 wk_401 (by decide +kernel)
theorem lkX1_55 : m_LkV RX1 55 yX1_hasPillar cX1_hasPillar 2 (some .boolean) 1 := m_lkV wk_402 wk_403 wk_404 wk_3 wk_405 (by decide +kernel)
theorem lkL_18 : m_LkV RL 18 yX11_weaver cX11_weaver 3 (some .int) 2 := m_lkV wk_406 wk_407 wk_408 wk_1 wk_409 (by decide +kernel)
theorem lkX11_80 : m_LkV RX11 80 yX1_putWeaver cX1_putWeaver 3 (some .int) 2 := m_lkV wk_410 wk_411 wk_412 wk_3 wk_413 (by decide +kernel)
theorem lkL_23 : m_LkV RL 23 yX11_face cX11_face 3 (some .int) 2 := m_lkV wk_414 wk_415 wk_416 wk_1 wk_417 (by decide +kernel)
theorem lkX11_84 : m_LkV RX11 84 yX1_turn cX1_turn 4 (some .int) 2 := m_lkV wk_418 wk_419 wk_420 wk_3 wk_421 (by decide +kernel)
theorem lkX1_48 : m_LkV RX1 48 yX1_isWeaver cX1_isWeaver 2 (some .boolean) 1 := m_lkV wk_422 wk_423 wk_424 wk_3 wk_425 (by decide +kernel)
theorem lkL_27 : m_LkV RL 27 yX11_free cX11_free 5 (some .int) 4 := m_lkV wk_426 wk_427 wk_428 wk_1 wk_429 (by decide +kernel)
theorem lkX11_87 : m_LkV RX11 87 yX1_setFree cX1_setFree 6 (some .int) 4 := m_lkV wk_430 wk_431 wk_432 wk_3 wk_433 (by decide +kernel)
theorem lkL_32 : m_LkV RL 32 yX11_far cX11_far 3 (some .int) 2 := m_lkV wk_434 wk_435 wk_436 wk_1 wk_437 (by decide +kernel)
theorem lkX11_91 : m_LkV RX11 91 yX1_setFar cX1_setFar 4 (some .int) 2 := m_lkV wk_438 wk_439 wk_440 wk_3 wk_441 (by decide +kernel)
theorem lkL_36 : m_LkV RL 36 yX11_sees cX11_sees 4 (some .int) 3 := m_lkV wk_442 wk_443 wk_444 wk_1 wk_445 (by decide +kernel)
theorem lkX11_94 : m_LkV RX11 94 yX1_areTwo cX1_areTwo 3 (some .boolean) 2 := m_lkV wk_446 wk_447 wk_448 wk_3 wk_449 (by decide +kernel)
theorem lkX11_98 : m_LkS RX11 98 yX11_within cX11_within 3 (some .boolean) 3 := m_lkS wk_450 wk_396 wk_1 wk_397 (by decide +kernel)
theorem lkX11_102 : m_LkV RX11 102 yX1_perceives cX1_perceives 4 (some .boolean) 3 := m_lkV wk_451 wk_452 wk_453 wk_3 wk_454 (by decide +kernel)
theorem lkX1_73 : m_LkV RX1 73 yX1_faceEachOther cX1_faceEachOther 5 (some .boolean) 4 := m_lkV wk_455 wk_456 wk_457 wk_3 wk_458 (by decide +kernel)
theorem lkX1_58 : m_LkS RX1 58 yX1_goesBy cX1_goesBy 5 (some .int) 3 := m_lkS wk_459 wk_460 wk_3 wk_461 (by decide +kernel)
theorem lkX1_77 : m_LkV RX1 77 yX1_mayRead cX1_mayRead 3 (some .boolean) 2 := m_lkV wk_462 wk_463 wk_464 wk_3 wk_465 (by decide +kernel)
theorem lkX1_65 : m_LkV RX1 65 yX1_squareOfWay cX1_squareOfWay 5 (some .int) 2 := m_lkV wk_466 wk_467 wk_468 wk_3 wk_469 (by decide +kernel)
theorem lkX1_69 : m_LkV RX1 69 yX1_isClear cX1_isClear 4 (some .boolean) 2 := m_lkV wk_470 wk_471 wk_472 wk_3 wk_473 (by decide +kernel)
theorem lkX1_62 : m_LkS RX1 62 yX1_isBlockedBy cX1_isBlockedBy 10 (some .boolean) 3 := m_lkS wk_474 wk_475 wk_3 wk_476 (by decide +kernel)
theorem lkX1_80 : m_LkV RX1 80 yX1_watches cX1_watches 3 (some .boolean) 2 := m_lkV wk_477 wk_478 wk_479 wk_3 wk_480 (by decide +kernel)
theorem lkX11_105 : m_LkS RX11 105 yX11_oneIf cX11_oneIf 1 (some .int) 1 := m_lkS wk_481 wk_482 wk_1 wk_483 (by decide +kernel)
theorem lkL_41 : m_LkV RL 41 yX11_clear cX11_clear 3 (some .int) 2 := m_lkV wk_484 wk_485 wk_486 wk_1 wk_487 (by decide +kernel)
theorem lkX11_109 : m_LkV RX11 109 yX1_isClear cX1_isClear 4 (some .boolean) 2 := m_lkV wk_488 wk_471 wk_472 wk_3 wk_473 (by decide +kernel)
theorem lkL_45 : m_LkV RL 45 yX11_knows cX11_knows 5 (some .int) 4 := m_lkV wk_489 wk_490 wk_491 wk_1 wk_492 (by decide +kernel)
theorem lkX11_112 : m_LkV RX11 112 yX11_canAskNews cX11_canAskNews 6 (some .boolean) 4 := m_lkV wk_493 wk_495 wk_p0 wk_1 wk_496 (by decide +kernel)
theorem lkX11_127 : m_LkV RX11 127 yX1_isWeaver cX1_isWeaver 2 (some .boolean) 1 := m_lkV wk_497 wk_423 wk_424 wk_3 wk_425 (by decide +kernel)
theorem lkX11_116 : m_LkV RX11 116 yX5_spread cX5_spread 13 none 5 := m_lkV wk_498 wk_499 wk_500 wk_6 wk_501 (by decide +kernel)
theorem lkX5_23 : m_LkV RX5 23 yX1_perceiversOf cX1_perceiversOf 5 (some .int) 2 := m_lkV wk_502 wk_503 wk_504 wk_3 wk_505 (by decide +kernel)
theorem lkX1_83 : m_LkV RX1 83 yX1_perceives cX1_perceives 4 (some .boolean) 3 := m_lkV wk_506 wk_452 wk_453 wk_3 wk_454 (by decide +kernel)
theorem lkX5_27 : m_LkV RX5 27 yX1_seenBy cX1_seenBy 4 (some .int) 1 := m_lkV wk_507 wk_508 wk_509 wk_3 wk_510 (by decide +kernel)
theorem lkX5_35 : m_LkV RX5 35 yX1_lookersIn cX1_lookersIn 4 (some .int) 1 := m_lkV wk_511 wk_512 wk_513 wk_3 wk_514 (by decide +kernel)
theorem lkX5_38 : m_LkN RX5 38 yX11_hasBit RX11 cX11_hasBit 2 (some .boolean) 2 := m_lkN nw_9 wk_516 wk_1 wk_517 (by decide +kernel)
theorem lkX5_42 : m_LkV RX5 42 yX1_tellersIn cX1_tellersIn 4 (some .int) 1 := m_lkV wk_518 wk_519 wk_520 wk_3 wk_521 (by decide +kernel)
theorem lkX5_45 : m_LkV RX5 45 yX5_tellInSecond cX5_tellInSecond 7 (some .int) 3 := m_lkV wk_522 wk_524 wk_p1 wk_6 wk_525 (by decide +kernel)
theorem lkX5_49 : m_LkV RX5 49 yX5_write cX5_write 5 none 3 := m_lkV wk_526 wk_528 wk_p2 wk_6 wk_529 (by decide +kernel)
theorem lkL_49 : m_LkV RL 49 yX11_teller cX11_teller 5 (some .int) 4 := m_lkV wk_530 wk_531 wk_532 wk_1 wk_533 (by decide +kernel)
theorem lkL_53 : m_LkV RL 53 yX11_meet cX11_meet 6 (some .int) 4 := m_lkV wk_534 wk_535 wk_536 wk_1 wk_537 (by decide +kernel)
theorem lkX11_131 : m_LkS RX11 131 yX11_firstOf cX11_firstOf 2 (some .int) 2 := m_lkS wk_538 wk_539 wk_1 wk_540 (by decide +kernel)
theorem lkL_57 : m_LkV RL 57 yX11_seen cX11_seen 4 (some .int) 3 := m_lkV wk_541 wk_542 wk_543 wk_1 wk_544 (by decide +kernel)
theorem lkX11_138 : m_LkV RX11 138 yX8_add cX8_add 4 (some .int) 3 := m_lkV wk_545 wk_546 wk_547 wk_4 wk_548 (by decide +kernel)
theorem lkX8_33 : m_LkN RX8 33 yX11_within RX11 cX11_within 3 (some .boolean) 3 := m_lkN nw_10 wk_396 wk_1 wk_397 (by decide +kernel)
theorem lkX8_37 : m_LkN RX8 37 yX11_oneIf RX11 cX11_oneIf 1 (some .int) 1 := m_lkN nw_11 wk_482 wk_1 wk_483 (by decide +kernel)
theorem lkL_62 : m_LkV RL 62 yX11_source cX11_source 3 (some .int) 0 := m_lkV wk_551 wk_552 wk_553 wk_1 wk_554 (by decide +kernel)
theorem lkX11_148 : m_LkV RX11 148 yX8_areBorneBy cX8_areBorneBy 5 (some .boolean) 1 := m_lkV wk_555 wk_556 wk_557 wk_4 wk_558 (by decide +kernel)
theorem lkL_67 : m_LkV RL 67 yX11_apart cX11_apart 3 (some .int) 2 := m_lkV wk_559 wk_560 wk_561 wk_1 wk_562 (by decide +kernel)
theorem lkX11_152 : m_LkV RX11 152 yX5_waysApart cX5_waysApart 8 (some .int) 3 := m_lkV wk_563 wk_564 wk_565 wk_6 wk_566 (by decide +kernel)
theorem lkX5_53 : m_LkN RX5 53 yX11_oneIf RX11 cX11_oneIf 1 (some .int) 1 := m_lkN nw_12 wk_482 wk_1 wk_483 (by decide +kernel)
theorem lkX5_57 : m_LkV RX5 57 yX5_isReached cX5_isReached 8 (some .boolean) 4 := m_lkV wk_568 wk_570 wk_p3 wk_6 wk_571 (by decide +kernel)
theorem lkX5_61 : m_LkS RX5 61 yJ6_bitCount_0f7a4 cJ6_bitCount_0f7a4 1 (some .int) 1 := m_lkS wk_572 wk_573 wk_14 wk_574 (by decide +kernel)
theorem lkL_71 : m_LkV RL 71 yX11_like cX11_like 3 (some .int) 2 := m_lkV wk_581 wk_582 wk_583 wk_1 wk_584 (by decide +kernel)
theorem lkX11_160 : m_LkV RX11 160 yX3_makeAlike cX3_makeAlike 6 (some .int) 2 := m_lkV wk_585 wk_586 wk_587 wk_5 wk_588 (by decide +kernel)
theorem lkX3_52 : m_LkN RX3 52 yX11_within RX11 cX11_within 3 (some .boolean) 3 := m_lkN nw_13 wk_396 wk_1 wk_397 (by decide +kernel)
theorem lkL_75 : m_LkV RL 75 yX11_word cX11_word 4 (some .int) 3 := m_lkV wk_594 wk_595 wk_596 wk_1 wk_597 (by decide +kernel)
theorem lkX11_165 : m_LkV RX11 165 yX3_addWord cX3_addWord 6 (some .int) 3 := m_lkV wk_598 wk_599 wk_600 wk_5 wk_601 (by decide +kernel)
theorem lkL_79 : m_LkV RL 79 yX11_alike cX11_alike 3 (some .int) 2 := m_lkV wk_602 wk_603 wk_604 wk_1 wk_605 (by decide +kernel)
theorem lkX11_169 : m_LkV RX11 169 yX3_isWord cX3_isWord 2 (some .boolean) 1 := m_lkV wk_606 wk_607 wk_608 wk_5 wk_609 (by decide +kernel)
theorem lkX11_172 : m_LkV RX11 172 yX3_areAlike cX3_areAlike 3 (some .boolean) 2 := m_lkV wk_610 wk_611 wk_612 wk_5 wk_613 (by decide +kernel)
theorem lkX3_73 : m_LkV RX3 73 yX3_unlikeLips cX3_unlikeLips 5 (some .int) 2 := m_lkV wk_614 wk_615 wk_616 wk_5 wk_617 (by decide +kernel)
theorem lkX3_69 : m_LkV RX3 69 yX3_lookAlike cX3_lookAlike 3 (some .boolean) 2 := m_lkV wk_618 wk_620 wk_p4 wk_5 wk_621 (by decide +kernel)
theorem lkL_83 : m_LkV RL 83 yX11_lip cX11_lip 2 (some .int) 1 := m_lkV wk_622 wk_623 wk_624 wk_1 wk_625 (by decide +kernel)
theorem lkX11_175 : m_LkV RX11 175 yX3_addLip cX3_addLip 2 (some .int) 1 := m_lkV wk_626 wk_627 wk_628 wk_5 wk_629 (by decide +kernel)
theorem lkL_87 : m_LkV RL 87 yX11_hush cX11_hush 2 (some .int) 0 := m_lkV wk_630 wk_631 wk_632 wk_1 wk_633 (by decide +kernel)
theorem lkL_91 : m_LkV RL 91 yX11_reads cX11_reads 3 (some .int) 1 := m_lkV wk_634 wk_635 wk_636 wk_1 wk_637 (by decide +kernel)
theorem lkX11_181 : m_LkV RX11 181 yX6_reckon cX6_reckon 5 none 1 := m_lkV wk_638 wk_639 wk_640 wk_7 wk_641 (by decide +kernel)
theorem lkX6_33 : m_LkV RX6 33 yX3_fitsRow cX3_fitsRow 4 (some .boolean) 2 := m_lkV wk_642 wk_643 wk_644 wk_5 wk_645 (by decide +kernel)
theorem lkX6_43 : m_LkV RX6 43 yX6_begin cX6_begin 7 none 4 := m_lkV wk_646 wk_648 wk_p5 wk_7 wk_649 (by decide +kernel)
theorem lkX11_185 : m_LkV RX11 185 yX6_number cX6_number 1 (some .int) 0 := m_lkV wk_651 wk_652 wk_653 wk_7 wk_654 (by decide +kernel)
theorem lkX11_189 : m_LkV RX11 189 yX6_fewestWords cX6_fewestWords 1 (some .int) 0 := m_lkV wk_655 wk_656 wk_657 wk_7 wk_658 (by decide +kernel)
theorem lkX11_192 : m_LkV RX11 192 yX6_wordInPlace cX6_wordInPlace 5 (some .int) 2 := m_lkV wk_659 wk_660 wk_661 wk_7 wk_662 (by decide +kernel)
theorem lkL_95 : m_LkV RL 95 yX11_mistaken cX11_mistaken 2 (some .int) 1 := m_lkV wk_663 wk_664 wk_665 wk_1 wk_666 (by decide +kernel)
theorem lkX11_196 : m_LkV RX11 196 yX3_areWords cX3_areWords 2 (some .boolean) 1 := m_lkV wk_667 wk_668 wk_669 wk_5 wk_670 (by decide +kernel)
theorem lkX3_56 : m_LkV RX3 56 yX3_allWords cX3_allWords 1 (some .int) 0 := m_lkV wk_671 wk_672 wk_673 wk_5 wk_674 (by decide +kernel)
theorem lkX11_199 : m_LkV RX11 199 yX3_mistakenWith cX3_mistakenWith 2 (some .int) 1 := m_lkV wk_675 wk_676 wk_677 wk_5 wk_678 (by decide +kernel)
theorem lkX3_79 : m_LkV RX3 79 yX3_findLaterAlike cX3_findLaterAlike 3 none 0 := m_lkV wk_679 wk_681 wk_p6 wk_5 wk_682 (by decide +kernel)
theorem lkX3_89 : m_LkV RX3 89 yX3_areAlike cX3_areAlike 3 (some .boolean) 2 := m_lkV wk_683 wk_611 wk_612 wk_5 wk_613 (by decide +kernel)
theorem lkX3_82 : m_LkV RX3 82 yX3_mistakenBy cX3_mistakenBy 4 (some .int) 1 := m_lkV wk_684 wk_686 wk_p7 wk_5 wk_687 (by decide +kernel)
theorem lkX3_76 : m_LkN RX3 76 yX11_hasBit RX11 cX11_hasBit 2 (some .boolean) 2 := m_lkN nw_14 wk_516 wk_1 wk_517 (by decide +kernel)
theorem lkX3_86 : m_LkV RX3 86 yX3_weightOf cX3_weightOf 4 (some .int) 1 := m_lkV wk_689 wk_690 wk_691 wk_5 wk_692 (by decide +kernel)
theorem lkL_99 : m_LkV RL 99 yX11_signs cX11_signs 2 (some .int) 1 := m_lkV wk_693 wk_694 wk_695 wk_1 wk_696 (by decide +kernel)
theorem lkX11_205 : m_LkV RX11 205 yX3_bestSigns cX3_bestSigns 6 (some .int) 1 := m_lkV wk_697 wk_698 wk_699 wk_5 wk_700 (by decide +kernel)
theorem lkX3_92 : m_LkS RX3 92 yJ6_bitCount_0f7a4 cJ6_bitCount_0f7a4 1 (some .int) 1 := m_lkS wk_701 wk_573 wk_14 wk_574 (by decide +kernel)
theorem lkL_103 : m_LkV RL 103 yX11_plain cX11_plain 3 (some .int) 1 := m_lkV wk_702 wk_703 wk_704 wk_1 wk_705 (by decide +kernel)
theorem lkL_107 : m_LkV RL 107 yX11_arrives cX11_arrives 6 (some .int) 3 := m_lkV wk_706 wk_707 wk_708 wk_1 wk_709 (by decide +kernel)
theorem lkX11_211 : m_LkV RX11 211 yX0_say cX0_say 7 none 3 := m_lkV wk_710 wk_711 wk_712 wk_8 wk_713 (by decide +kernel)
theorem lkX0_54 : m_LkV RX0 54 yX3_unlikeLips cX3_unlikeLips 5 (some .int) 2 := m_lkV wk_714 wk_615 wk_616 wk_5 wk_617 (by decide +kernel)
theorem lkX0_58 : m_LkN RX0 58 yX11_oneIf RX11 cX11_oneIf 1 (some .int) 1 := m_lkN nw_15 wk_482 wk_1 wk_483 (by decide +kernel)
theorem lkX0_64 : m_LkV RX0 64 yX4_put cX4_put 2 none 1 := m_lkV wk_716 wk_341 wk_342 wk_9 wk_343 (by decide +kernel)
theorem lkX0_68 : m_LkV RX0 68 yX0_findParts cX0_findParts 4 none 0 := m_lkV wk_717 wk_719 wk_p8 wk_8 wk_720 (by decide +kernel)
theorem lkX0_71 : m_LkN RX0 71 yX11_commonDivisor RX11 cX11_commonDivisor 6 (some .int) 2 := m_lkN nw_16 wk_722 wk_1 wk_723 (by decide +kernel)
theorem lkX11_215 : m_LkV RX11 215 yX0_passOn cX0_passOn 2 none 0 := m_lkV wk_724 wk_725 wk_726 wk_8 wk_727 (by decide +kernel)
theorem lkX0_74 : m_LkV RX0 74 yX4_copyFrom cX4_copyFrom 2 none 1 := m_lkV wk_728 wk_729 wk_730 wk_9 wk_731 (by decide +kernel)
theorem lkX0_81 : m_LkV RX0 81 yX0_hear cX0_hear 3 none 1 := m_lkV wk_735 wk_737 wk_p9 wk_8 wk_738 (by decide +kernel)
theorem lkX0_84 : m_LkV RX0 84 yX0_multiplyByParts cX0_multiplyByParts 3 none 1 := m_lkV wk_739 wk_741 wk_p10 wk_8 wk_742 (by decide +kernel)
theorem lkX0_94 : m_LkV RX0 94 yX4_multiply cX4_multiply 5 none 1 := m_lkV wk_743 wk_744 wk_745 wk_9 wk_746 (by decide +kernel)
theorem lkX0_87 : m_LkV RX0 87 yX4_divide cX4_divide 5 none 1 := m_lkV wk_748 wk_749 wk_750 wk_9 wk_751 (by decide +kernel)
theorem lkX4_37 : m_LkV RX4 37 yX4_trim cX4_trim 2 none 0 := m_lkV wk_752 wk_754 wk_p11 wk_9 wk_755 (by decide +kernel)
theorem lkX0_90 : m_LkV RX0 90 yX4_addTimes cX4_addTimes 8 none 2 := m_lkV wk_756 wk_757 wk_758 wk_9 wk_759 (by decide +kernel)
theorem lkX11_218 : m_LkV RX11 218 yX0_tellAs cX0_tellAs 3 none 2 := m_lkV wk_761 wk_762 wk_763 wk_8 wk_764 (by decide +kernel)
theorem lkX0_101 : m_LkV RX0 101 yX2_put_ cX2_put_ 3 none 2 := m_lkV wk_765 wk_766 wk_767 wk_12 wk_768 (by decide +kernel)
theorem lkX2_30 : m_LkV RX2 30 yX4_copyFrom cX4_copyFrom 2 none 1 := m_lkV wk_769 wk_729 wk_730 wk_9 wk_731 (by decide +kernel)
theorem lkX2_27 : m_LkV RX2 27 yX2_toLowestTerms cX2_toLowestTerms 3 none 0 := m_lkV wk_770 wk_772 wk_p12 wk_12 wk_773 (by decide +kernel)
theorem lkX2_34 : m_LkV RX2 34 yX2_isDividedBy cX2_isDividedBy 2 (some .boolean) 1 := m_lkV wk_774 wk_776 wk_p13 wk_12 wk_777 (by decide +kernel)
theorem lkX2_41 : m_LkV RX2 41 yX4_remainder cX4_remainder 5 (some .int) 1 := m_lkV wk_778 wk_779 wk_780 wk_9 wk_781 (by decide +kernel)
theorem lkX2_38 : m_LkV RX2 38 yX4_divide cX4_divide 5 none 1 := m_lkV wk_782 wk_749 wk_750 wk_9 wk_751 (by decide +kernel)
theorem lkL_111 : m_LkV RL 111 yX11_turns cX11_turns 5 (some .int) 3 := m_lkV wk_783 wk_784 wk_785 wk_1 wk_786 (by decide +kernel)
theorem lkX11_222 : m_LkV RX11 222 yX0_isBelow cX0_isBelow 4 (some .boolean) 3 := m_lkV wk_787 wk_788 wk_789 wk_8 wk_790 (by decide +kernel)
theorem lkX0_97 : m_LkV RX0 97 yX4_isLessThan cX4_isLessThan 3 (some .boolean) 1 := m_lkV wk_791 wk_792 wk_793 wk_9 wk_794 (by decide +kernel)
theorem lkL_115 : m_LkV RL 115 yX11_girl cX11_girl 3 (some .int) 1 := m_lkV wk_795 wk_796 wk_797 wk_1 wk_798 (by decide +kernel)
theorem lkL_119 : m_LkV RL 119 yX11_gets cX11_gets 1 (some .int) 0 := m_lkV wk_799 wk_800 wk_801 wk_1 wk_802 (by decide +kernel)
theorem lkX11_228 : m_LkV RX11 228 yX3_gotten cX3_gotten 2 (some .int) 1 := m_lkV wk_803 wk_804 wk_805 wk_5 wk_806 (by decide +kernel)
theorem lkX3_97 : m_LkV RX3 97 yX3_findBetterAlike cX3_findBetterAlike 4 none 0 := m_lkV wk_807 wk_809 wk_p14 wk_5 wk_810 (by decide +kernel)
theorem lkX3_100 : m_LkV RX3 100 yX3_gottenOf cX3_gottenOf 4 (some .int) 1 := m_lkV wk_811 wk_813 wk_p15 wk_5 wk_814 (by decide +kernel)
theorem lkL_123 : m_LkV RL 123 yX11_share cX11_share 2 (some .int) 0 := m_lkV wk_815 wk_816 wk_817 wk_1 wk_818 (by decide +kernel)
theorem lkX11_231 : m_LkV RX11 231 yX3_weightOf cX3_weightOf 4 (some .int) 1 := m_lkV wk_819 wk_690 wk_691 wk_5 wk_692 (by decide +kernel)
theorem lkX11_234 : m_LkV RX11 234 yX3_allWords cX3_allWords 1 (some .int) 0 := m_lkV wk_820 wk_672 wk_673 wk_5 wk_674 (by decide +kernel)
theorem lkX11_237 : m_LkV RX11 237 yX2_put cX2_put 3 none 2 := m_lkV wk_821 wk_822 wk_823 wk_12 wk_824 (by decide +kernel)
theorem lkL_127 : m_LkV RL 127 yX11_teach cX11_teach 2 (some .int) 1 := m_lkV wk_825 wk_826 wk_827 wk_1 wk_828 (by decide +kernel)
theorem lkX11_241 : m_LkS RX11 241 yJ6_bitCount_0f7a4 cJ6_bitCount_0f7a4 1 (some .int) 1 := m_lkS wk_829 wk_573 wk_14 wk_574 (by decide +kernel)
theorem lkX11_246 : m_LkV RX11 246 yX3_bestTaught cX3_bestTaught 6 (some .int) 1 := m_lkV wk_830 wk_831 wk_832 wk_5 wk_833 (by decide +kernel)
theorem lkL_131 : m_LkV RL 131 yX11_band cX11_band 4 (some .int) 3 := m_lkV wk_834 wk_835 wk_836 wk_1 wk_837 (by decide +kernel)
theorem lkL_135 : m_LkV RL 135 yX11_heard cX11_heard 5 (some .int) 2 := m_lkV wk_838 wk_839 wk_840 wk_1 wk_841 (by decide +kernel)
theorem lkL_139 : m_LkV RL 139 yX11_anew cX11_anew 3 (some .int) 2 := m_lkV wk_842 wk_843 wk_844 wk_1 wk_845 (by decide +kernel)
theorem lkX11_255 : m_LkV RX11 255 yX10_search cX10_search 7 none 2 := m_lkV wk_846 wk_847 wk_848 wk_10 wk_849 (by decide +kernel)
theorem lkX10_43 : m_LkV RX10 43 yX10_findReaders cX10_findReaders 5 none 2 := m_lkV wk_851 wk_853 wk_p16 wk_10 wk_854 (by decide +kernel)
theorem lkX10_64 : m_LkV RX10 64 yX1_mayRead cX1_mayRead 3 (some .boolean) 2 := m_lkV wk_855 wk_463 wk_464 wk_3 wk_465 (by decide +kernel)
theorem lkX10_68 : m_LkV RX10 68 yX10_joinWays cX10_joinWays 6 none 3 := m_lkV wk_856 wk_858 wk_p17 wk_10 wk_859 (by decide +kernel)
theorem lkX10_72 : m_LkV RX10 72 yX1_faceEachOther cX1_faceEachOther 5 (some .boolean) 4 := m_lkV wk_860 wk_456 wk_457 wk_3 wk_458 (by decide +kernel)
theorem lkX10_47 : m_LkV RX10 47 yX10_countPairs cX10_countPairs 4 none 2 := m_lkV wk_861 wk_863 wk_p18 wk_10 wk_864 (by decide +kernel)
theorem lkX10_76 : m_LkS RX10 76 yJ6_bitCount_0f7a4 cJ6_bitCount_0f7a4 1 (some .int) 1 := m_lkS wk_865 wk_573 wk_14 wk_574 (by decide +kernel)
theorem lkX10_60 : m_LkV RX10 60 yX10_turnToNext cX10_turnToNext 3 (some .int) 1 := m_lkV wk_867 wk_869 wk_p19 wk_10 wk_870 (by decide +kernel)
theorem lkX11_262 : m_LkV RX11 262 yX10_bestWayOf cX10_bestWayOf 2 (some .int) 1 := m_lkV wk_871 wk_872 wk_873 wk_10 wk_874 (by decide +kernel)
theorem lkX10_27 : m_LkN RX10 27 yX11_within RX11 cX11_within 3 (some .boolean) 3 := m_lkN nw_17 wk_396 wk_1 wk_397 (by decide +kernel)
theorem lkL_145 : m_LkV RL 145 yX11_type cX11_type 4 (some .int) 2 := m_lkV wk_876 wk_877 wk_878 wk_1 wk_879 (by decide +kernel)
theorem lkX11_265 : m_LkV RX11 265 yX9_add cX9_add 5 (some .int) 2 := m_lkV wk_880 wk_881 wk_882 wk_11 wk_883 (by decide +kernel)
theorem lkX9_26 : m_LkN RX9 26 yX11_within RX11 cX11_within 3 (some .boolean) 3 := m_lkN nw_18 wk_396 wk_1 wk_397 (by decide +kernel)
theorem lkL_150 : m_LkV RL 150 yX11_erase cX11_erase 2 (some .int) 0 := m_lkV wk_886 wk_887 wk_888 wk_1 wk_889 (by decide +kernel)
theorem lkL_154 : m_LkV RL 154 yX11_shed cX11_shed 3 (some .int) 0 := m_lkV wk_890 wk_891 wk_892 wk_1 wk_893 (by decide +kernel)
theorem lkX11_271 : m_LkV RX11 271 yX9_readItems cX9_readItems 3 (some .int) 0 := m_lkV wk_894 wk_895 wk_896 wk_11 wk_897 (by decide +kernel)
theorem lkX9_42 : m_LkV RX9 42 yX9_nextToken cX9_nextToken 2 none 0 := m_lkV wk_898 wk_900 wk_p20 wk_11 wk_901 (by decide +kernel)
theorem lkX9_64 : m_LkV RX9 64 yX9_endOfRun cX9_endOfRun 6 (some .int) 3 := m_lkV wk_902 wk_904 wk_p21 wk_11 wk_905 (by decide +kernel)
theorem lkX9_68 : m_LkV RX9 68 yX9_byteAt cX9_byteAt 2 (some .int) 1 := m_lkV wk_906 wk_908 wk_p22 wk_11 wk_909 (by decide +kernel)
theorem lkX9_72 : m_LkV RX9 72 yX9_readNumber cX9_readNumber 2 none 0 := m_lkV wk_910 wk_912 wk_p23 wk_11 wk_913 (by decide +kernel)
theorem lkX9_75 : m_LkV RX9 75 yX9_kindNamed cX9_kindNamed 2 (some .int) 0 := m_lkV wk_914 wk_916 wk_p24 wk_11 wk_917 (by decide +kernel)
theorem lkX9_79 : m_LkS RX9 79 yX9_nameOf cX9_nameOf 1 (some (.object "java/lang/String")) 1 := m_lkS wk_918 wk_919 wk_11 wk_920 (by decide +kernel)
theorem lkX9_83 : m_LkV RX9 83 yX9_tokenSpells cX9_tokenSpells 3 (some .boolean) 1 := m_lkV wk_928 wk_930 wk_p25 wk_11 wk_931 (by decide +kernel)
theorem lkX9_87 : m_LkV RX9 87 yJ0_length_8abf5 cJ0_length_8abf5 1 (some .int) 0 := m_lkV wk_932 wk_933 wk_934 wk_17 wk_935 (by decide +kernel)
theorem lkJ0_335 : m_LkV RJ0 335 yJ0_coder_7d493 cJ0_coder_7d493 1 (some .byte) 0 := m_lkV wk_936 wk_937 wk_938 wk_17 wk_939 (by decide +kernel)
theorem lkX9_92 : m_LkV RX9 92 yJ0_charAt_5068e cJ0_charAt_5068e 2 (some .char) 1 := m_lkV wk_942 wk_943 wk_944 wk_17 wk_945 (by decide +kernel)
theorem lkJ0_492 : m_LkV RJ0 492 yJ0_isLatin1_aae02 cJ0_isLatin1_aae02 1 (some .boolean) 0 := m_lkV wk_946 wk_947 wk_948 wk_17 wk_949 (by decide +kernel)
theorem lkJ0_495 : m_LkS RJ0 495 yJ1_charAt_3b067 cJ1_charAt_3b067 2 (some .char) 2 := m_lkS wk_950 wk_951 wk_18 wk_952 (by decide +kernel)
theorem lkJ1_9 : m_LkS RJ1 9 yJ0_checkIndex_df160 cJ0_checkIndex_df160 2 none 2 := m_lkS wk_953 wk_954 wk_17 wk_955 (by decide +kernel)
theorem lkJ0_1059 : m_LkS RJ0 1059 yJ3_checkIndex_8e157 cJ3_checkIndex_8e157 3 (some .int) 3 := m_lkS wk_958 wk_959 wk_19 wk_960 (by decide +kernel)
theorem lkJ0_498 : m_LkS RJ0 498 yJ2_charAt_3b067 cJ2_charAt_3b067 2 (some .char) 2 := m_lkS wk_961 wk_962 wk_20 wk_963 (by decide +kernel)
theorem lkJ2_67 : m_LkS RJ2 67 yJ2_checkIndex_2214a cJ2_checkIndex_2214a 2 none 2 := m_lkS wk_964 wk_965 wk_20 wk_966 (by decide +kernel)
theorem lkJ2_48 : m_LkS RJ2 48 yJ2_length_9d52b cJ2_length_9d52b 1 (some .int) 1 := m_lkS wk_967 wk_968 wk_20 wk_969 (by decide +kernel)
theorem lkJ2_414 : m_LkS RJ2 414 yJ0_checkIndex_df160 cJ0_checkIndex_df160 2 none 2 := m_lkS wk_970 wk_954 wk_17 wk_955 (by decide +kernel)
theorem lkJ2_71 : m_LkS RJ2 71 yJ2_getChar_3b067 cJ2_getChar_3b067 2 (some .char) 2 := m_lkS wk_971 wk_972 wk_20 wk_973 (by decide +kernel)
theorem lkX9_51 : m_LkV RX9 51 yX9_readNumbers cX9_readNumbers 4 (some .int) 2 := m_lkV wk_980 wk_982 wk_p26 wk_11 wk_983 (by decide +kernel)
theorem lkX11_274 : m_LkV RX11 274 yX7_copyFrom cX7_copyFrom 2 none 1 := m_lkV wk_988 wk_989 wk_990 wk_2 wk_991 (by decide +kernel)
theorem lkX7_41 : m_LkV RX7 41 yX1_copyFrom cX1_copyFrom 2 none 1 := m_lkV wk_992 wk_993 wk_994 wk_3 wk_995 (by decide +kernel)
theorem lkX7_45 : m_LkV RX7 45 yX8_copyFrom cX8_copyFrom 2 none 1 := m_lkV wk_997 wk_998 wk_999 wk_4 wk_1000 (by decide +kernel)
theorem lkX7_48 : m_LkV RX7 48 yX3_copyFrom cX3_copyFrom 2 none 1 := m_lkV wk_1002 wk_1003 wk_1004 wk_5 wk_1005 (by decide +kernel)
theorem lkX11_278 : m_LkV RX11 278 yX7_beginAnew cX7_beginAnew 1 none 0 := m_lkV wk_1008 wk_1009 wk_1010 wk_2 wk_1011 (by decide +kernel)
theorem lkX7_57 : m_LkV RX7 57 yX1_makeEmpty cX1_makeEmpty 1 none 0 := m_lkV wk_1012 wk_43 wk_44 wk_3 wk_45 (by decide +kernel)
theorem lkX7_63 : m_LkV RX7 63 yX3_makeEmpty cX3_makeEmpty 2 none 0 := m_lkV wk_1013 wk_101 wk_102 wk_5 wk_103 (by decide +kernel)
theorem lkX11_284 : m_LkV RX11 284 yX9_tellItem cX9_tellItem 5 (some .int) 2 := m_lkV wk_1014 wk_1015 wk_1016 wk_11 wk_1017 (by decide +kernel)
theorem lkX9_116 : m_LkV RX9 116 yX1_putPillar cX1_putPillar 2 (some .int) 1 := m_lkV wk_1018 wk_392 wk_393 wk_3 wk_394 (by decide +kernel)
theorem lkX9_121 : m_LkV RX9 121 yX1_putWeaver cX1_putWeaver 3 (some .int) 2 := m_lkV wk_1019 wk_411 wk_412 wk_3 wk_413 (by decide +kernel)
theorem lkX9_124 : m_LkV RX9 124 yX1_setFree cX1_setFree 6 (some .int) 4 := m_lkV wk_1020 wk_431 wk_432 wk_3 wk_433 (by decide +kernel)
theorem lkX9_128 : m_LkV RX9 128 yX1_setFar cX1_setFar 4 (some .int) 2 := m_lkV wk_1021 wk_439 wk_440 wk_3 wk_441 (by decide +kernel)
theorem lkX9_140 : m_LkS RX9 140 yX9_tellWord cX9_tellWord 5 (some .int) 3 := m_lkS wk_1023 wk_1024 wk_11 wk_1025 (by decide +kernel)
theorem lkX9_149 : m_LkV RX9 149 yX3_addWord cX3_addWord 6 (some .int) 3 := m_lkV wk_1026 wk_599 wk_600 wk_5 wk_601 (by decide +kernel)
theorem lkX9_144 : m_LkV RX9 144 yX3_makeAlike cX3_makeAlike 6 (some .int) 2 := m_lkV wk_1027 wk_586 wk_587 wk_5 wk_588 (by decide +kernel)
theorem lkL_158 : m_LkV RL 158 yX11_sign cX11_sign 2 (some .int) 1 := m_lkV wk_1029 wk_1030 wk_1031 wk_1 wk_1032 (by decide +kernel)
theorem lkX11_288 : m_LkV RX11 288 yX2_signNumber cX2_signNumber 1 (some .int) 0 := m_lkV wk_1033 wk_1034 wk_1035 wk_12 wk_1036 (by decide +kernel)
theorem lkL_162 : m_LkV RL 162 yX11_limb cX11_limb 3 (some .int) 2 := m_lkV wk_1037 wk_1038 wk_1039 wk_1 wk_1040 (by decide +kernel)
theorem lkX11_303 : m_LkV RX11 303 yX4_limbAt cX4_limbAt 2 (some .int) 1 := m_lkV wk_1041 wk_1042 wk_1043 wk_9 wk_1044 (by decide +kernel)
theorem lkX4_19 : m_LkN RX4 19 yX11_within RX11 cX11_within 3 (some .boolean) 3 := m_lkN nw_19 wk_396 wk_1 wk_397 (by decide +kernel)
theorem lkL_166 : m_LkV RL 166 yX11_image cX11_image 3 (some .int) 1 := m_lkV wk_1046 wk_1047 wk_1048 wk_1 wk_1049 (by decide +kernel)
theorem lkX11_306 : m_LkV RX11 306 yX11_imageNumbered cX11_imageNumbered 2 (some (.object "ShedTalk$Shed")) 1 := m_lkV wk_1050 wk_1052 wk_p27 wk_1 wk_1053 (by decide +kernel)
theorem lkL_170 : m_LkV RL 170 yX11_from cX11_from 3 (some .int) 1 := m_lkV wk_1054 wk_1055 wk_1056 wk_1 wk_1057 (by decide +kernel)
theorem lkL_174 : m_LkV RL 174 yX11_count cX11_count 2 (some .int) 1 := m_lkV wk_1058 wk_1059 wk_1060 wk_1 wk_1061 (by decide +kernel)
theorem lkX11_318 : m_LkS RX11 318 yJ13_bitCount_95d88 cJ13_bitCount_95d88 2 (some .int) 1 := m_lkS wk_1062 wk_1063 wk_21 wk_1064 (by decide +kernel)
theorem lkL_178 : m_LkV RL 178 yX11_digest cX11_digest 4 (some .long) 0 := m_lkV wk_1068 wk_1069 wk_1070 wk_1 wk_1071 (by decide +kernel)
theorem lkX11_328 : m_LkV RX11 328 yX11_count cX11_count 2 (some .int) 1 := m_lkV wk_1073 wk_1059 wk_1060 wk_1 wk_1061 (by decide +kernel)
theorem lkX11_331 : m_LkS RX11 331 yX11_mixed cX11_mixed 3 (some .long) 2 := m_lkS wk_1074 wk_1075 wk_1 wk_1076 (by decide +kernel)
theorem lkX11_335 : m_LkV RX11 335 yX1_digestOnto cX1_digestOnto 6 (some .long) 1 := m_lkV wk_1078 wk_1079 wk_1080 wk_3 wk_1081 (by decide +kernel)
theorem lkX1_86 : m_LkN RX1 86 yX11_oneIf RX11 cX11_oneIf 1 (some .int) 1 := m_lkN nw_20 wk_482 wk_1 wk_483 (by decide +kernel)
theorem lkX1_90 : m_LkN RX1 90 yX11_mixed RX11 cX11_mixed 3 (some .long) 2 := m_lkN nw_21 wk_1075 wk_1 wk_1076 (by decide +kernel)
theorem lkX11_339 : m_LkV RX11 339 yX8_digestOnto cX8_digestOnto 6 (some .long) 1 := m_lkV wk_1084 wk_1085 wk_1086 wk_4 wk_1087 (by decide +kernel)
theorem lkX8_44 : m_LkN RX8 44 yX11_mixed RX11 cX11_mixed 3 (some .long) 2 := m_lkN nw_22 wk_1075 wk_1 wk_1076 (by decide +kernel)
theorem lkX11_340 : m_LkV RX11 340 yX3_digestWordsOnto cX3_digestWordsOnto 6 (some .long) 1 := m_lkV wk_1089 wk_1090 wk_1091 wk_5 wk_1092 (by decide +kernel)
theorem lkX3_103 : m_LkN RX3 103 yX11_mixed RX11 cX11_mixed 3 (some .long) 2 := m_lkN nw_23 wk_1075 wk_1 wk_1076 (by decide +kernel)
theorem lkX11_343 : m_LkV RX11 343 yX2_digestOnto cX2_digestOnto 5 (some .long) 1 := m_lkV wk_1094 wk_1095 wk_1096 wk_12 wk_1097 (by decide +kernel)
theorem lkX2_45 : m_LkV RX2 45 yX2_signNumber cX2_signNumber 1 (some .int) 0 := m_lkV wk_1098 wk_1034 wk_1035 wk_12 wk_1036 (by decide +kernel)
theorem lkX2_49 : m_LkN RX2 49 yX11_mixed RX11 cX11_mixed 3 (some .long) 2 := m_lkN nw_24 wk_1075 wk_1 wk_1076 (by decide +kernel)
theorem lkX2_55 : m_LkV RX2 55 yX4_digestOnto cX4_digestOnto 6 (some .long) 1 := m_lkV wk_1100 wk_1101 wk_1102 wk_9 wk_1103 (by decide +kernel)
theorem lkX4_40 : m_LkN RX4 40 yX11_mixed RX11 cX11_mixed 3 (some .long) 2 := m_lkN nw_25 wk_1075 wk_1 wk_1076 (by decide +kernel)
theorem lkX12_71 : m_LkV RX12 71 yX12_begins cX12_begins 2 none 0 := m_lkV wk_1111 wk_1113 wk_p28 wk_13 wk_1114 (by decide +kernel)
theorem lkX12_74 : m_LkV RX12 74 yX12_sets cX12_sets 5 none 2 := m_lkV wk_1115 wk_1117 wk_p29 wk_13 wk_1118 (by decide +kernel)
theorem lkX12_80 : m_LkV RX12 80 yX12_trims cX12_trims 2 none 1 := m_lkV wk_1120 wk_1122 wk_p30 wk_13 wk_1123 (by decide +kernel)
theorem lkL_161 : m_LkV RL 161 yX12_sign cX12_sign 2 (some .int) 1 := m_lkV wk_1204 wk_1205 wk_1206 wk_13 wk_1207 (by decide +kernel)
theorem lkL_165 : m_LkV RL 165 yX12_limb cX12_limb 3 (some .int) 2 := m_lkV wk_1208 wk_1209 wk_1210 wk_13 wk_1211 (by decide +kernel)
theorem lkX12_109 : m_LkS RX12 109 yX12_in cX12_in 6 (some .boolean) 3 := m_lkS wk_1212 wk_1213 wk_13 wk_1214 (by decide +kernel)
theorem lkL_17 : m_LkV RL 17 yX12_pillar cX12_pillar 2 (some .int) 1 := m_lkV wk_1215 wk_1216 wk_1217 wk_13 wk_1218 (by decide +kernel)
theorem lkX12_119 : m_LkS RX12 119 yX12_isPlace cX12_isPlace 1 (some .boolean) 1 := m_lkS wk_1219 wk_1220 wk_13 wk_1221 (by decide +kernel)
theorem lkX12_122 : m_LkV RX12 122 yX12_stands cX12_stands 4 (some .boolean) 1 := m_lkV wk_1223 wk_1225 wk_p31 wk_13 wk_1226 (by decide +kernel)
theorem lkX12_115 : m_LkV RX12 115 yX12_placeOf cX12_placeOf 2 (some .int) 1 := m_lkV wk_1227 wk_1229 wk_p32 wk_13 wk_1230 (by decide +kernel)
theorem lkL_22 : m_LkV RL 22 yX12_weaver cX12_weaver 4 (some .int) 2 := m_lkV wk_1231 wk_1232 wk_1233 wk_13 wk_1234 (by decide +kernel)
theorem lkL_26 : m_LkV RL 26 yX12_face cX12_face 3 (some .int) 2 := m_lkV wk_1236 wk_1237 wk_1238 wk_13 wk_1239 (by decide +kernel)
theorem lkX12_127 : m_LkV RX12 127 yX12_isWeaver cX12_isWeaver 2 (some .boolean) 1 := m_lkV wk_1240 wk_1242 wk_p33 wk_13 wk_1243 (by decide +kernel)
theorem lkX12_130 : m_LkV RX12 130 yX12_puts cX12_puts 4 (some .int) 2 := m_lkV wk_1244 wk_1246 wk_p34 wk_13 wk_1247 (by decide +kernel)
theorem lkL_31 : m_LkV RL 31 yX12_free cX12_free 7 (some .int) 4 := m_lkV wk_1248 wk_1249 wk_1250 wk_13 wk_1251 (by decide +kernel)
theorem lkL_35 : m_LkV RL 35 yX12_far cX12_far 3 (some .int) 2 := m_lkV wk_1253 wk_1254 wk_1255 wk_13 wk_1256 (by decide +kernel)
theorem lkL_40 : m_LkV RL 40 yX12_sees cX12_sees 5 (some .int) 3 := m_lkV wk_1258 wk_1259 wk_1260 wk_13 wk_1261 (by decide +kernel)
theorem lkX12_155 : m_LkV RX12 155 yX12_areTwo cX12_areTwo 3 (some .boolean) 2 := m_lkV wk_1262 wk_1264 wk_p35 wk_13 wk_1265 (by decide +kernel)
theorem lkX12_158 : m_LkV RX12 158 yX12_areFacing cX12_areFacing 3 (some .boolean) 2 := m_lkV wk_1266 wk_1268 wk_p36 wk_13 wk_1269 (by decide +kernel)
theorem lkX12_148 : m_LkV RX12 148 yX12_faceOf cX12_faceOf 2 (some .int) 1 := m_lkV wk_1270 wk_1272 wk_p37 wk_13 wk_1273 (by decide +kernel)
theorem lkX12_151 : m_LkV RX12 151 yX12_areReading cX12_areReading 5 (some .boolean) 4 := m_lkV wk_1274 wk_1276 wk_p38 wk_13 wk_1277 (by decide +kernel)
theorem lkX12_140 : m_LkS RX12 140 yX12_toward cX12_toward 5 (some .int) 3 := m_lkS wk_1278 wk_1279 wk_13 wk_1280 (by decide +kernel)
theorem lkX12_137 : m_LkS RX12 137 yX12_square cX12_square 4 (some .int) 2 := m_lkS wk_1281 wk_1282 wk_13 wk_1283 (by decide +kernel)
theorem lkX12_144 : m_LkV RX12 144 yX12_isClear cX12_isClear 12 (some .boolean) 2 := m_lkV wk_1284 wk_1286 wk_p39 wk_13 wk_1287 (by decide +kernel)
theorem lkX12_161 : m_LkV RX12 161 yX12_watches cX12_watches 5 (some .boolean) 2 := m_lkV wk_1288 wk_1290 wk_p40 wk_13 wk_1291 (by decide +kernel)
theorem lkL_44 : m_LkV RL 44 yX12_clear cX12_clear 3 (some .int) 2 := m_lkV wk_1292 wk_1293 wk_1294 wk_13 wk_1295 (by decide +kernel)
theorem lkL_48 : m_LkV RL 48 yX12_knows cX12_knows 5 (some .int) 4 := m_lkV wk_1296 wk_1297 wk_1298 wk_13 wk_1299 (by decide +kernel)
theorem lkX12_172 : m_LkV RX12 172 yX12_isNews cX12_isNews 5 (some .boolean) 4 := m_lkV wk_1300 wk_1302 wk_p41 wk_13 wk_1303 (by decide +kernel)
theorem lkX12_175 : m_LkV RX12 175 yX12_spreads cX12_spreads 10 none 4 := m_lkV wk_1304 wk_1306 wk_p42 wk_13 wk_1307 (by decide +kernel)
theorem lkX12_164 : m_LkV RX12 164 yX12_looks cX12_looks 6 none 1 := m_lkV wk_1308 wk_1310 wk_p43 wk_13 wk_1311 (by decide +kernel)
theorem lkX12_168 : m_LkV RX12 168 yX12_can cX12_can 4 (some .boolean) 3 := m_lkV wk_1313 wk_1315 wk_p44 wk_13 wk_1316 (by decide +kernel)
theorem lkL_52 : m_LkV RL 52 yX12_teller cX12_teller 5 (some .int) 4 := m_lkV wk_1317 wk_1318 wk_1319 wk_13 wk_1320 (by decide +kernel)
theorem lkL_56 : m_LkV RL 56 yX12_meet cX12_meet 7 (some .int) 4 := m_lkV wk_1321 wk_1322 wk_1323 wk_13 wk_1324 (by decide +kernel)
theorem lkL_61 : m_LkV RL 61 yX12_seen cX12_seen 5 (some .int) 3 := m_lkV wk_1326 wk_1327 wk_1328 wk_13 wk_1329 (by decide +kernel)
theorem lkL_66 : m_LkV RL 66 yX12_source cX12_source 7 (some .int) 0 := m_lkV wk_1330 wk_1331 wk_1332 wk_13 wk_1333 (by decide +kernel)
theorem lkL_70 : m_LkV RL 70 yX12_apart cX12_apart 6 (some .int) 2 := m_lkV wk_1334 wk_1335 wk_1336 wk_13 wk_1337 (by decide +kernel)
theorem lkX12_181 : m_LkS RX12 181 yX12_sizeOf cX12_sizeOf 3 (some .int) 1 := m_lkS wk_1338 wk_1339 wk_13 wk_1340 (by decide +kernel)
theorem lkX12_184 : m_LkV RX12 184 yX12_isJoined cX12_isJoined 9 (some .boolean) 3 := m_lkV wk_1341 wk_1343 wk_p45 wk_13 wk_1344 (by decide +kernel)
theorem lkL_74 : m_LkV RL 74 yX12_like cX12_like 6 (some .int) 2 := m_lkV wk_1345 wk_1346 wk_1347 wk_13 wk_1348 (by decide +kernel)
theorem lkL_78 : m_LkV RL 78 yX12_word cX12_word 5 (some .int) 3 := m_lkV wk_1350 wk_1351 wk_1352 wk_13 wk_1353 (by decide +kernel)
theorem lkX12_191 : m_LkS RX12 191 yX12_power cX12_power 3 (some .int) 1 := m_lkS wk_1355 wk_1356 wk_13 wk_1357 (by decide +kernel)
theorem lkL_82 : m_LkV RL 82 yX12_alike cX12_alike 3 (some .int) 2 := m_lkV wk_1359 wk_1360 wk_1361 wk_13 wk_1362 (by decide +kernel)
theorem lkX12_205 : m_LkV RX12 205 yX12_isWord cX12_isWord 2 (some .boolean) 1 := m_lkV wk_1363 wk_1365 wk_p46 wk_13 wk_1366 (by decide +kernel)
theorem lkX12_208 : m_LkV RX12 208 yX12_areAlike cX12_areAlike 3 (some .boolean) 2 := m_lkV wk_1367 wk_1369 wk_p47 wk_13 wk_1370 (by decide +kernel)
theorem lkX12_196 : m_LkV RX12 196 yX12_lengthOf cX12_lengthOf 2 (some .int) 1 := m_lkV wk_1371 wk_1373 wk_p48 wk_13 wk_1374 (by decide +kernel)
theorem lkX12_202 : m_LkV RX12 202 yX12_unlike cX12_unlike 5 (some .int) 2 := m_lkV wk_1375 wk_1377 wk_p49 wk_13 wk_1378 (by decide +kernel)
theorem lkX12_199 : m_LkV RX12 199 yX12_lipOf cX12_lipOf 3 (some .int) 2 := m_lkV wk_1379 wk_1381 wk_p50 wk_13 wk_1382 (by decide +kernel)
theorem lkL_86 : m_LkV RL 86 yX12_lip cX12_lip 2 (some .int) 1 := m_lkV wk_1383 wk_1384 wk_1385 wk_13 wk_1386 (by decide +kernel)
theorem lkL_90 : m_LkV RL 90 yX12_hush cX12_hush 1 (some .int) 0 := m_lkV wk_1387 wk_1388 wk_1389 wk_13 wk_1390 (by decide +kernel)
theorem lkL_94 : m_LkV RL 94 yX12_reads cX12_reads 7 (some .int) 1 := m_lkV wk_1391 wk_1392 wk_1393 wk_13 wk_1394 (by decide +kernel)
theorem lkX12_222 : m_LkV RX12 222 yX12_readsRow cX12_readsRow 7 none 0 := m_lkV wk_1397 wk_1399 wk_p51 wk_13 wk_1400 (by decide +kernel)
theorem lkX12_211 : m_LkV RX12 211 yX12_isAtRow cX12_isAtRow 5 (some .boolean) 2 := m_lkV wk_1401 wk_1403 wk_p52 wk_13 wk_1404 (by decide +kernel)
theorem lkX12_215 : m_LkV RX12 215 yX12_weightOf cX12_weightOf 2 (some .int) 1 := m_lkV wk_1406 wk_1408 wk_p53 wk_13 wk_1409 (by decide +kernel)
theorem lkL_98 : m_LkV RL 98 yX12_mistaken cX12_mistaken 2 (some .int) 1 := m_lkV wk_1410 wk_1411 wk_1412 wk_13 wk_1413 (by decide +kernel)
theorem lkX12_225 : m_LkV RX12 225 yX12_allWords cX12_allWords 1 (some .int) 0 := m_lkV wk_1414 wk_1416 wk_p54 wk_13 wk_1417 (by decide +kernel)
theorem lkX12_229 : m_LkV RX12 229 yX12_mistakes cX12_mistakes 6 (some .int) 1 := m_lkV wk_1418 wk_1420 wk_p55 wk_13 wk_1421 (by decide +kernel)
theorem lkL_102 : m_LkV RL 102 yX12_signs cX12_signs 5 (some .int) 1 := m_lkV wk_1422 wk_1423 wk_1424 wk_13 wk_1425 (by decide +kernel)
theorem lkL_106 : m_LkV RL 106 yX12_plain cX12_plain 2 (some .int) 1 := m_lkV wk_1426 wk_1427 wk_1428 wk_13 wk_1429 (by decide +kernel)
theorem lkL_110 : m_LkV RL 110 yX12_arrives cX12_arrives 5 (some .int) 3 := m_lkV wk_1431 wk_1432 wk_1433 wk_13 wk_1434 (by decide +kernel)
theorem lkX12_245 : m_LkV RX12 245 yX12_beginHearing cX12_beginHearing 4 none 1 := m_lkV wk_1436 wk_1438 wk_p56 wk_13 wk_1439 (by decide +kernel)
theorem lkX12_234 : m_LkV RX12 234 yX12_hearing cX12_hearing 3 (some .int) 2 := m_lkV wk_1440 wk_1442 wk_p57 wk_13 wk_1443 (by decide +kernel)
theorem lkX12_248 : m_LkV RX12 248 yX12_hearsOn cX12_hearsOn 5 none 1 := m_lkV wk_1444 wk_1446 wk_p58 wk_13 wk_1447 (by decide +kernel)
theorem lkX12_84 : m_LkV RX12 84 yX12_takes cX12_takes 4 none 2 := m_lkV wk_1448 wk_1450 wk_p59 wk_13 wk_1451 (by decide +kernel)
theorem lkX12_237 : m_LkV RX12 237 yX12_times cX12_times 8 none 2 := m_lkV wk_1452 wk_1454 wk_p60 wk_13 wk_1455 (by decide +kernel)
theorem lkX12_240 : m_LkV RX12 240 yX12_adds cX12_adds 7 none 2 := m_lkV wk_1456 wk_1458 wk_p61 wk_13 wk_1459 (by decide +kernel)
theorem lkX12_106 : m_LkV RX12 106 yX12_lowers cX12_lowers 2 none 0 := m_lkV wk_1461 wk_1463 wk_p62 wk_13 wk_1464 (by decide +kernel)
theorem lkX12_89 : m_LkV RX12 89 yX12_isEven cX12_isEven 2 (some .boolean) 1 := m_lkV wk_1465 wk_1467 wk_p63 wk_13 wk_1468 (by decide +kernel)
theorem lkX12_93 : m_LkV RX12 93 yX12_halves cX12_halves 4 none 1 := m_lkV wk_1469 wk_1471 wk_p64 wk_13 wk_1472 (by decide +kernel)
theorem lkX12_96 : m_LkV RX12 96 yX12_against cX12_against 4 (some .int) 2 := m_lkV wk_1473 wk_1475 wk_p65 wk_13 wk_1476 (by decide +kernel)
theorem lkX12_100 : m_LkV RX12 100 yX12_lessens cX12_lessens 6 none 2 := m_lkV wk_1477 wk_1479 wk_p66 wk_13 wk_1480 (by decide +kernel)
theorem lkX12_103 : m_LkV RX12 103 yX12_parts cX12_parts 13 none 1 := m_lkV wk_1481 wk_1483 wk_p67 wk_13 wk_1484 (by decide +kernel)
theorem lkL_114 : m_LkV RL 114 yX12_turns cX12_turns 5 (some .int) 3 := m_lkV wk_1485 wk_1486 wk_1487 wk_13 wk_1488 (by decide +kernel)
theorem lkL_118 : m_LkV RL 118 yX12_girl cX12_girl 2 (some .int) 1 := m_lkV wk_1489 wk_1490 wk_1491 wk_13 wk_1492 (by decide +kernel)
theorem lkL_122 : m_LkV RL 122 yX12_gets cX12_gets 1 (some .int) 0 := m_lkV wk_1493 wk_1494 wk_1495 wk_13 wk_1496 (by decide +kernel)
theorem lkX12_251 : m_LkV RX12 251 yX12_getsOf cX12_getsOf 7 (some .int) 1 := m_lkV wk_1497 wk_1499 wk_p68 wk_13 wk_1500 (by decide +kernel)
theorem lkL_126 : m_LkV RL 126 yX12_share cX12_share 1 (some .int) 0 := m_lkV wk_1501 wk_1502 wk_1503 wk_13 wk_1504 (by decide +kernel)
theorem lkX12_254 : m_LkV RX12 254 yX12_gets cX12_gets 1 (some .int) 0 := m_lkV wk_1505 wk_1494 wk_1495 wk_13 wk_1496 (by decide +kernel)
theorem lkX12_257 : m_LkV RX12 257 yX12_weights cX12_weights 4 (some .int) 1 := m_lkV wk_1506 wk_1508 wk_p69 wk_13 wk_1509 (by decide +kernel)
theorem lkX12_260 : m_LkV RX12 260 yX12_told cX12_told 5 (some .int) 2 := m_lkV wk_1510 wk_1512 wk_p70 wk_13 wk_1513 (by decide +kernel)
theorem lkL_130 : m_LkV RL 130 yX12_teach cX12_teach 6 (some .int) 1 := m_lkV wk_1514 wk_1515 wk_1516 wk_13 wk_1517 (by decide +kernel)
theorem lkL_134 : m_LkV RL 134 yX12_band cX12_band 4 (some .int) 3 := m_lkV wk_1518 wk_1519 wk_1520 wk_13 wk_1521 (by decide +kernel)
theorem lkL_138 : m_LkV RL 138 yX12_heard cX12_heard 5 (some .int) 2 := m_lkV wk_1522 wk_1523 wk_1524 wk_13 wk_1525 (by decide +kernel)
theorem lkL_142 : m_LkV RL 142 yX12_anew cX12_anew 7 (some .int) 2 := m_lkV wk_1527 wk_1528 wk_1529 wk_13 wk_1530 (by decide +kernel)
theorem lkX12_266 : m_LkV RX12 266 yX12_pairs cX12_pairs 4 (some .int) 0 := m_lkV wk_1531 wk_1533 wk_p71 wk_13 wk_1534 (by decide +kernel)
theorem lkL_149 : m_LkV RL 149 yX12_type cX12_type 5 (some .int) 2 := m_lkV wk_1535 wk_1536 wk_1537 wk_13 wk_1538 (by decide +kernel)
theorem lkL_153 : m_LkV RL 153 yX12_erase cX12_erase 2 (some .int) 0 := m_lkV wk_1541 wk_1542 wk_1543 wk_13 wk_1544 (by decide +kernel)
theorem lkL_157 : m_LkV RL 157 yX12_shed cX12_shed 3 (some .int) 0 := m_lkV wk_1545 wk_1546 wk_1547 wk_13 wk_1548 (by decide +kernel)
theorem lkX12_348 : m_LkV RX12 348 yX12_readsText cX12_readsText 3 (some .boolean) 0 := m_lkV wk_1549 wk_1551 wk_p72 wk_13 wk_1552 (by decide +kernel)
theorem lkX12_320 : m_LkV RX12 320 yX12_scans cX12_scans 3 none 0 := m_lkV wk_1553 wk_1555 wk_p73 wk_13 wk_1556 (by decide +kernel)
theorem lkX12_294 : m_LkV RX12 294 yX12_isAt cX12_isAt 3 (some .boolean) 2 := m_lkV wk_1557 wk_1559 wk_p74 wk_13 wk_1560 (by decide +kernel)
theorem lkX12_307 : m_LkS RX12 307 yX12_wordOf cX12_wordOf 2 (some .int) 1 := m_lkS wk_1563 wk_1564 wk_13 wk_1565 (by decide +kernel)
theorem lkX12_323 : m_LkS RX12 323 yX12_mostOf cX12_mostOf 1 (some .int) 1 := m_lkS wk_1573 wk_1574 wk_13 wk_1575 (by decide +kernel)
theorem lkX12_314 : m_LkS RX12 314 yX12_fewestOf cX12_fewestOf 1 (some .int) 1 := m_lkS wk_1576 wk_1577 wk_13 wk_1578 (by decide +kernel)
theorem lkX12_352 : m_LkV RX12 352 yX12_tellsItem cX12_tellsItem 5 (some .int) 1 := m_lkV wk_1579 wk_1581 wk_p75 wk_13 wk_1582 (by decide +kernel)
theorem lkX12_329 : m_LkV RX12 329 yX12_pillar cX12_pillar 2 (some .int) 1 := m_lkV wk_1583 wk_1216 wk_1217 wk_13 wk_1218 (by decide +kernel)
theorem lkX12_332 : m_LkV RX12 332 yX12_weaver cX12_weaver 4 (some .int) 2 := m_lkV wk_1584 wk_1232 wk_1233 wk_13 wk_1234 (by decide +kernel)
theorem lkX12_335 : m_LkV RX12 335 yX12_free cX12_free 7 (some .int) 4 := m_lkV wk_1585 wk_1249 wk_1250 wk_13 wk_1251 (by decide +kernel)
theorem lkX12_339 : m_LkV RX12 339 yX12_far cX12_far 3 (some .int) 2 := m_lkV wk_1586 wk_1254 wk_1255 wk_13 wk_1256 (by decide +kernel)
theorem lkX12_342 : m_LkV RX12 342 yX12_tellsWord cX12_tellsWord 5 (some .int) 1 := m_lkV wk_1587 wk_1589 wk_p76 wk_13 wk_1590 (by decide +kernel)
theorem lkX12_326 : m_LkV RX12 326 yX12_word cX12_word 5 (some .int) 3 := m_lkV wk_1591 wk_1351 wk_1352 wk_13 wk_1353 (by decide +kernel)
theorem lkX12_345 : m_LkV RX12 345 yX12_like cX12_like 6 (some .int) 2 := m_lkV wk_1592 wk_1346 wk_1347 wk_13 wk_1348 (by decide +kernel)
theorem lkL_169 : m_LkV RL 169 yX12_image cX12_image 3 (some .int) 1 := m_lkV wk_1593 wk_1594 wk_1595 wk_13 wk_1596 (by decide +kernel)
theorem lkL_173 : m_LkV RL 173 yX12_from cX12_from 3 (some .int) 1 := m_lkV wk_1597 wk_1598 wk_1599 wk_13 wk_1600 (by decide +kernel)
theorem lkL_177 : m_LkV RL 177 yX12_count cX12_count 2 (some .int) 1 := m_lkV wk_1601 wk_1602 wk_1603 wk_13 wk_1604 (by decide +kernel)
theorem lkX12_355 : m_LkV RX12 355 yX12_countOf cX12_countOf 2 (some .int) 1 := m_lkV wk_1605 wk_1607 wk_p77 wk_13 wk_1608 (by decide +kernel)
theorem lkL_182 : m_LkV RL 182 yX12_digest cX12_digest 4 (some .long) 0 := m_lkV wk_1609 wk_1610 wk_1611 wk_13 wk_1612 (by decide +kernel)
theorem lkX12_362 : m_LkS RX12 362 yX12_mixed cX12_mixed 8 (some .long) 4 := m_lkS wk_1615 wk_1616 wk_13 wk_1617 (by decide +kernel)
theorem lkX12_366 : m_LkV RX12 366 yX12_sign cX12_sign 2 (some .int) 1 := m_lkV wk_1618 wk_1205 wk_1206 wk_13 wk_1207 (by decide +kernel)
theorem bO_s0 {β : Type} {o : Option Unit} {k : Option β} {r : β} (h : bO o (u0 k) = some r) : o = some () ∧ k = some r := by
  cases o with
  | none => cases h
  | some a => exact ⟨rfl, h⟩
theorem bT_s0 {γ : Type} {o : Option (γ ⊕ Unit)} {k : Option (γ)} {r : γ} (h : bT o (u0 k) = some r) : ∃ x, o = some x ∧ (∀ a, x = .inl a → a = r) ∧ (x = .inr () → k = some r) := by
  obtain ⟨x, h1, h2, h3⟩ := bT_some h
  exact ⟨x, h1, h2, fun h => h3 () h⟩
theorem bL_s0 {γ δ : Type} {o : Option (γ ⊕ Unit)} {k : Option (γ ⊕ δ)} {r : γ ⊕ δ} (h : bL o (u0 k) = some r) : ∃ x, o = some x ∧ (∀ a, x = .inl a → Sum.inl a = r) ∧ (x = .inr () → k = some r) := by
  obtain ⟨x, h1, h2, h3⟩ := bL_some h
  exact ⟨x, h1, h2, fun h => h3 () h⟩
theorem bO_s1 {α β : Type} {o : Option α} {k : α → Option β} {r : β} (h : bO o k = some r) : ∃ a, o = some a ∧ k a = some r := bO_some h
theorem bT_s1 {α γ : Type} {o : Option (γ ⊕ α)} {k : α → Option γ} {r : γ} (h : bT o k = some r) : ∃ x, o = some x ∧ (∀ a, x = .inl a → a = r) ∧ (∀ a, x = .inr a → k a = some r) := bT_some h
theorem bL_s1 {α γ δ : Type} {o : Option (γ ⊕ α)} {k : α → Option (γ ⊕ δ)} {r : γ ⊕ δ} (h : bL o k = some r) : ∃ x, o = some x ∧ (∀ a, x = .inl a → Sum.inl a = r) ∧ (∀ a, x = .inr a → k a = some r) := bL_some h
def u2 {A1 A2 β : Type} (f : A1 → A2 → β) (q : A1 × A2) : β := f q.1 q.2
theorem bO_s2 {A1 A2 β : Type} {o : Option (A1 × A2)} {f : A1 → A2 → Option β} {r : β} (h : bO o (u2 f) = some r) : ∃ a1 a2, o = some (a1, a2) ∧ f a1 a2 = some r := by
  cases o with
  | none => cases h
  | some q => exact ⟨q.1, q.2, rfl, h⟩
theorem bT_s2 {A1 A2 γ : Type} {o : Option (γ ⊕ (A1 × A2))} {f : A1 → A2 → Option (γ)} {r : γ} (h : bT o (u2 f) = some r) : ∃ x, o = some x ∧ (∀ a, x = .inl a → a = r) ∧ (∀ a1 a2, x = .inr (a1, a2) → f a1 a2 = some r) := by
  obtain ⟨x, h1, h2, h3⟩ := bT_some h
  exact ⟨x, h1, h2, fun a1 a2 h => h3 (a1, a2) h⟩
theorem bL_s2 {A1 A2 γ δ : Type} {o : Option (γ ⊕ (A1 × A2))} {f : A1 → A2 → Option (γ ⊕ δ)} {r : γ ⊕ δ} (h : bL o (u2 f) = some r) : ∃ x, o = some x ∧ (∀ a, x = .inl a → Sum.inl a = r) ∧ (∀ a1 a2, x = .inr (a1, a2) → f a1 a2 = some r) := by
  obtain ⟨x, h1, h2, h3⟩ := bL_some h
  exact ⟨x, h1, h2, fun a1 a2 h => h3 (a1, a2) h⟩
def u3 {A1 A2 A3 β : Type} (f : A1 → A2 → A3 → β) (q : A1 × A2 × A3) : β := f q.1 q.2.1 q.2.2
theorem bO_s3 {A1 A2 A3 β : Type} {o : Option (A1 × A2 × A3)} {f : A1 → A2 → A3 → Option β} {r : β} (h : bO o (u3 f) = some r) : ∃ a1 a2 a3, o = some (a1, a2, a3) ∧ f a1 a2 a3 = some r := by
  cases o with
  | none => cases h
  | some q => exact ⟨q.1, q.2.1, q.2.2, rfl, h⟩
theorem bT_s3 {A1 A2 A3 γ : Type} {o : Option (γ ⊕ (A1 × A2 × A3))} {f : A1 → A2 → A3 → Option (γ)} {r : γ} (h : bT o (u3 f) = some r) : ∃ x, o = some x ∧ (∀ a, x = .inl a → a = r) ∧ (∀ a1 a2 a3, x = .inr (a1, a2, a3) → f a1 a2 a3 = some r) := by
  obtain ⟨x, h1, h2, h3⟩ := bT_some h
  exact ⟨x, h1, h2, fun a1 a2 a3 h => h3 (a1, a2, a3) h⟩
theorem bL_s3 {A1 A2 A3 γ δ : Type} {o : Option (γ ⊕ (A1 × A2 × A3))} {f : A1 → A2 → A3 → Option (γ ⊕ δ)} {r : γ ⊕ δ} (h : bL o (u3 f) = some r) : ∃ x, o = some x ∧ (∀ a, x = .inl a → Sum.inl a = r) ∧ (∀ a1 a2 a3, x = .inr (a1, a2, a3) → f a1 a2 a3 = some r) := by
  obtain ⟨x, h1, h2, h3⟩ := bL_some h
  exact ⟨x, h1, h2, fun a1 a2 a3 h => h3 (a1, a2, a3) h⟩
def u4 {A1 A2 A3 A4 β : Type} (f : A1 → A2 → A3 → A4 → β) (q : A1 × A2 × A3 × A4) : β := f q.1 q.2.1 q.2.2.1 q.2.2.2
theorem bO_s4 {A1 A2 A3 A4 β : Type} {o : Option (A1 × A2 × A3 × A4)} {f : A1 → A2 → A3 → A4 → Option β} {r : β} (h : bO o (u4 f) = some r) : ∃ a1 a2 a3 a4, o = some (a1, a2, a3, a4) ∧ f a1 a2 a3 a4 = some r := by
  cases o with
  | none => cases h
  | some q => exact ⟨q.1, q.2.1, q.2.2.1, q.2.2.2, rfl, h⟩
theorem bT_s4 {A1 A2 A3 A4 γ : Type} {o : Option (γ ⊕ (A1 × A2 × A3 × A4))} {f : A1 → A2 → A3 → A4 → Option (γ)} {r : γ} (h : bT o (u4 f) = some r) : ∃ x, o = some x ∧ (∀ a, x = .inl a → a = r) ∧ (∀ a1 a2 a3 a4, x = .inr (a1, a2, a3, a4) → f a1 a2 a3 a4 = some r) := by
  obtain ⟨x, h1, h2, h3⟩ := bT_some h
  exact ⟨x, h1, h2, fun a1 a2 a3 a4 h => h3 (a1, a2, a3, a4) h⟩
theorem bL_s4 {A1 A2 A3 A4 γ δ : Type} {o : Option (γ ⊕ (A1 × A2 × A3 × A4))} {f : A1 → A2 → A3 → A4 → Option (γ ⊕ δ)} {r : γ ⊕ δ} (h : bL o (u4 f) = some r) : ∃ x, o = some x ∧ (∀ a, x = .inl a → Sum.inl a = r) ∧ (∀ a1 a2 a3 a4, x = .inr (a1, a2, a3, a4) → f a1 a2 a3 a4 = some r) := by
  obtain ⟨x, h1, h2, h3⟩ := bL_some h
  exact ⟨x, h1, h2, fun a1 a2 a3 a4 h => h3 (a1, a2, a3, a4) h⟩
def u5 {A1 A2 A3 A4 A5 β : Type} (f : A1 → A2 → A3 → A4 → A5 → β) (q : A1 × A2 × A3 × A4 × A5) : β := f q.1 q.2.1 q.2.2.1 q.2.2.2.1 q.2.2.2.2
theorem bO_s5 {A1 A2 A3 A4 A5 β : Type} {o : Option (A1 × A2 × A3 × A4 × A5)} {f : A1 → A2 → A3 → A4 → A5 → Option β} {r : β} (h : bO o (u5 f) = some r) : ∃ a1 a2 a3 a4 a5, o = some (a1, a2, a3, a4, a5) ∧ f a1 a2 a3 a4 a5 = some r := by
  cases o with
  | none => cases h
  | some q => exact ⟨q.1, q.2.1, q.2.2.1, q.2.2.2.1, q.2.2.2.2, rfl, h⟩
theorem bT_s5 {A1 A2 A3 A4 A5 γ : Type} {o : Option (γ ⊕ (A1 × A2 × A3 × A4 × A5))} {f : A1 → A2 → A3 → A4 → A5 → Option (γ)} {r : γ} (h : bT o (u5 f) = some r) : ∃ x, o = some x ∧ (∀ a, x = .inl a → a = r) ∧ (∀ a1 a2 a3 a4 a5, x = .inr (a1, a2, a3, a4, a5) → f a1 a2 a3 a4 a5 = some r) := by
  obtain ⟨x, h1, h2, h3⟩ := bT_some h
  exact ⟨x, h1, h2, fun a1 a2 a3 a4 a5 h => h3 (a1, a2, a3, a4, a5) h⟩
theorem bL_s5 {A1 A2 A3 A4 A5 γ δ : Type} {o : Option (γ ⊕ (A1 × A2 × A3 × A4 × A5))} {f : A1 → A2 → A3 → A4 → A5 → Option (γ ⊕ δ)} {r : γ ⊕ δ} (h : bL o (u5 f) = some r) : ∃ x, o = some x ∧ (∀ a, x = .inl a → Sum.inl a = r) ∧ (∀ a1 a2 a3 a4 a5, x = .inr (a1, a2, a3, a4, a5) → f a1 a2 a3 a4 a5 = some r) := by
  obtain ⟨x, h1, h2, h3⟩ := bL_some h
  exact ⟨x, h1, h2, fun a1 a2 a3 a4 a5 h => h3 (a1, a2, a3, a4, a5) h⟩
def u6 {A1 A2 A3 A4 A5 A6 β : Type} (f : A1 → A2 → A3 → A4 → A5 → A6 → β) (q : A1 × A2 × A3 × A4 × A5 × A6) : β := f q.1 q.2.1 q.2.2.1 q.2.2.2.1 q.2.2.2.2.1 q.2.2.2.2.2
theorem bO_s6 {A1 A2 A3 A4 A5 A6 β : Type} {o : Option (A1 × A2 × A3 × A4 × A5 × A6)} {f : A1 → A2 → A3 → A4 → A5 → A6 → Option β} {r : β} (h : bO o (u6 f) = some r) : ∃ a1 a2 a3 a4 a5 a6, o = some (a1, a2, a3, a4, a5, a6) ∧ f a1 a2 a3 a4 a5 a6 = some r := by
  cases o with
  | none => cases h
  | some q => exact ⟨q.1, q.2.1, q.2.2.1, q.2.2.2.1, q.2.2.2.2.1, q.2.2.2.2.2, rfl, h⟩
theorem bT_s6 {A1 A2 A3 A4 A5 A6 γ : Type} {o : Option (γ ⊕ (A1 × A2 × A3 × A4 × A5 × A6))} {f : A1 → A2 → A3 → A4 → A5 → A6 → Option (γ)} {r : γ} (h : bT o (u6 f) = some r) : ∃ x, o = some x ∧ (∀ a, x = .inl a → a = r) ∧ (∀ a1 a2 a3 a4 a5 a6, x = .inr (a1, a2, a3, a4, a5, a6) → f a1 a2 a3 a4 a5 a6 = some r) := by
  obtain ⟨x, h1, h2, h3⟩ := bT_some h
  exact ⟨x, h1, h2, fun a1 a2 a3 a4 a5 a6 h => h3 (a1, a2, a3, a4, a5, a6) h⟩
theorem bL_s6 {A1 A2 A3 A4 A5 A6 γ δ : Type} {o : Option (γ ⊕ (A1 × A2 × A3 × A4 × A5 × A6))} {f : A1 → A2 → A3 → A4 → A5 → A6 → Option (γ ⊕ δ)} {r : γ ⊕ δ} (h : bL o (u6 f) = some r) : ∃ x, o = some x ∧ (∀ a, x = .inl a → Sum.inl a = r) ∧ (∀ a1 a2 a3 a4 a5 a6, x = .inr (a1, a2, a3, a4, a5, a6) → f a1 a2 a3 a4 a5 a6 = some r) := by
  obtain ⟨x, h1, h2, h3⟩ := bL_some h
  exact ⟨x, h1, h2, fun a1 a2 a3 a4 a5 a6 h => h3 (a1, a2, a3, a4, a5, a6) h⟩
def u7 {A1 A2 A3 A4 A5 A6 A7 β : Type} (f : A1 → A2 → A3 → A4 → A5 → A6 → A7 → β) (q : A1 × A2 × A3 × A4 × A5 × A6 × A7) : β := f q.1 q.2.1 q.2.2.1 q.2.2.2.1 q.2.2.2.2.1 q.2.2.2.2.2.1 q.2.2.2.2.2.2
theorem bO_s7 {A1 A2 A3 A4 A5 A6 A7 β : Type} {o : Option (A1 × A2 × A3 × A4 × A5 × A6 × A7)} {f : A1 → A2 → A3 → A4 → A5 → A6 → A7 → Option β} {r : β} (h : bO o (u7 f) = some r) : ∃ a1 a2 a3 a4 a5 a6 a7, o = some (a1, a2, a3, a4, a5, a6, a7) ∧ f a1 a2 a3 a4 a5 a6 a7 = some r := by
  cases o with
  | none => cases h
  | some q => exact ⟨q.1, q.2.1, q.2.2.1, q.2.2.2.1, q.2.2.2.2.1, q.2.2.2.2.2.1, q.2.2.2.2.2.2, rfl, h⟩
theorem bT_s7 {A1 A2 A3 A4 A5 A6 A7 γ : Type} {o : Option (γ ⊕ (A1 × A2 × A3 × A4 × A5 × A6 × A7))} {f : A1 → A2 → A3 → A4 → A5 → A6 → A7 → Option (γ)} {r : γ} (h : bT o (u7 f) = some r) : ∃ x, o = some x ∧ (∀ a, x = .inl a → a = r) ∧ (∀ a1 a2 a3 a4 a5 a6 a7, x = .inr (a1, a2, a3, a4, a5, a6, a7) → f a1 a2 a3 a4 a5 a6 a7 = some r) := by
  obtain ⟨x, h1, h2, h3⟩ := bT_some h
  exact ⟨x, h1, h2, fun a1 a2 a3 a4 a5 a6 a7 h => h3 (a1, a2, a3, a4, a5, a6, a7) h⟩
theorem bL_s7 {A1 A2 A3 A4 A5 A6 A7 γ δ : Type} {o : Option (γ ⊕ (A1 × A2 × A3 × A4 × A5 × A6 × A7))} {f : A1 → A2 → A3 → A4 → A5 → A6 → A7 → Option (γ ⊕ δ)} {r : γ ⊕ δ} (h : bL o (u7 f) = some r) : ∃ x, o = some x ∧ (∀ a, x = .inl a → Sum.inl a = r) ∧ (∀ a1 a2 a3 a4 a5 a6 a7, x = .inr (a1, a2, a3, a4, a5, a6, a7) → f a1 a2 a3 a4 a5 a6 a7 = some r) := by
  obtain ⟨x, h1, h2, h3⟩ := bL_some h
  exact ⟨x, h1, h2, fun a1 a2 a3 a4 a5 a6 a7 h => h3 (a1, a2, a3, a4, a5, a6, a7) h⟩
def u8 {A1 A2 A3 A4 A5 A6 A7 A8 β : Type} (f : A1 → A2 → A3 → A4 → A5 → A6 → A7 → A8 → β) (q : A1 × A2 × A3 × A4 × A5 × A6 × A7 × A8) : β := f q.1 q.2.1 q.2.2.1 q.2.2.2.1 q.2.2.2.2.1 q.2.2.2.2.2.1 q.2.2.2.2.2.2.1 q.2.2.2.2.2.2.2
theorem bO_s8 {A1 A2 A3 A4 A5 A6 A7 A8 β : Type} {o : Option (A1 × A2 × A3 × A4 × A5 × A6 × A7 × A8)} {f : A1 → A2 → A3 → A4 → A5 → A6 → A7 → A8 → Option β} {r : β} (h : bO o (u8 f) = some r) : ∃ a1 a2 a3 a4 a5 a6 a7 a8, o = some (a1, a2, a3, a4, a5, a6, a7, a8) ∧ f a1 a2 a3 a4 a5 a6 a7 a8 = some r := by
  cases o with
  | none => cases h
  | some q => exact ⟨q.1, q.2.1, q.2.2.1, q.2.2.2.1, q.2.2.2.2.1, q.2.2.2.2.2.1, q.2.2.2.2.2.2.1, q.2.2.2.2.2.2.2, rfl, h⟩
theorem bT_s8 {A1 A2 A3 A4 A5 A6 A7 A8 γ : Type} {o : Option (γ ⊕ (A1 × A2 × A3 × A4 × A5 × A6 × A7 × A8))} {f : A1 → A2 → A3 → A4 → A5 → A6 → A7 → A8 → Option (γ)} {r : γ} (h : bT o (u8 f) = some r) : ∃ x, o = some x ∧ (∀ a, x = .inl a → a = r) ∧ (∀ a1 a2 a3 a4 a5 a6 a7 a8, x = .inr (a1, a2, a3, a4, a5, a6, a7, a8) → f a1 a2 a3 a4 a5 a6 a7 a8 = some r) := by
  obtain ⟨x, h1, h2, h3⟩ := bT_some h
  exact ⟨x, h1, h2, fun a1 a2 a3 a4 a5 a6 a7 a8 h => h3 (a1, a2, a3, a4, a5, a6, a7, a8) h⟩
theorem bL_s8 {A1 A2 A3 A4 A5 A6 A7 A8 γ δ : Type} {o : Option (γ ⊕ (A1 × A2 × A3 × A4 × A5 × A6 × A7 × A8))} {f : A1 → A2 → A3 → A4 → A5 → A6 → A7 → A8 → Option (γ ⊕ δ)} {r : γ ⊕ δ} (h : bL o (u8 f) = some r) : ∃ x, o = some x ∧ (∀ a, x = .inl a → Sum.inl a = r) ∧ (∀ a1 a2 a3 a4 a5 a6 a7 a8, x = .inr (a1, a2, a3, a4, a5, a6, a7, a8) → f a1 a2 a3 a4 a5 a6 a7 a8 = some r) := by
  obtain ⟨x, h1, h2, h3⟩ := bL_some h
  exact ⟨x, h1, h2, fun a1 a2 a3 a4 a5 a6 a7 a8 h => h3 (a1, a2, a3, a4, a5, a6, a7, a8) h⟩
def u9 {A1 A2 A3 A4 A5 A6 A7 A8 A9 β : Type} (f : A1 → A2 → A3 → A4 → A5 → A6 → A7 → A8 → A9 → β) (q : A1 × A2 × A3 × A4 × A5 × A6 × A7 × A8 × A9) : β := f q.1 q.2.1 q.2.2.1 q.2.2.2.1 q.2.2.2.2.1 q.2.2.2.2.2.1 q.2.2.2.2.2.2.1 q.2.2.2.2.2.2.2.1 q.2.2.2.2.2.2.2.2
theorem bO_s9 {A1 A2 A3 A4 A5 A6 A7 A8 A9 β : Type} {o : Option (A1 × A2 × A3 × A4 × A5 × A6 × A7 × A8 × A9)} {f : A1 → A2 → A3 → A4 → A5 → A6 → A7 → A8 → A9 → Option β} {r : β} (h : bO o (u9 f) = some r) : ∃ a1 a2 a3 a4 a5 a6 a7 a8 a9, o = some (a1, a2, a3, a4, a5, a6, a7, a8, a9) ∧ f a1 a2 a3 a4 a5 a6 a7 a8 a9 = some r := by
  cases o with
  | none => cases h
  | some q => exact ⟨q.1, q.2.1, q.2.2.1, q.2.2.2.1, q.2.2.2.2.1, q.2.2.2.2.2.1, q.2.2.2.2.2.2.1, q.2.2.2.2.2.2.2.1, q.2.2.2.2.2.2.2.2, rfl, h⟩
theorem bT_s9 {A1 A2 A3 A4 A5 A6 A7 A8 A9 γ : Type} {o : Option (γ ⊕ (A1 × A2 × A3 × A4 × A5 × A6 × A7 × A8 × A9))} {f : A1 → A2 → A3 → A4 → A5 → A6 → A7 → A8 → A9 → Option (γ)} {r : γ} (h : bT o (u9 f) = some r) : ∃ x, o = some x ∧ (∀ a, x = .inl a → a = r) ∧ (∀ a1 a2 a3 a4 a5 a6 a7 a8 a9, x = .inr (a1, a2, a3, a4, a5, a6, a7, a8, a9) → f a1 a2 a3 a4 a5 a6 a7 a8 a9 = some r) := by
  obtain ⟨x, h1, h2, h3⟩ := bT_some h
  exact ⟨x, h1, h2, fun a1 a2 a3 a4 a5 a6 a7 a8 a9 h => h3 (a1, a2, a3, a4, a5, a6, a7, a8, a9) h⟩
theorem bL_s9 {A1 A2 A3 A4 A5 A6 A7 A8 A9 γ δ : Type} {o : Option (γ ⊕ (A1 × A2 × A3 × A4 × A5 × A6 × A7 × A8 × A9))} {f : A1 → A2 → A3 → A4 → A5 → A6 → A7 → A8 → A9 → Option (γ ⊕ δ)} {r : γ ⊕ δ} (h : bL o (u9 f) = some r) : ∃ x, o = some x ∧ (∀ a, x = .inl a → Sum.inl a = r) ∧ (∀ a1 a2 a3 a4 a5 a6 a7 a8 a9, x = .inr (a1, a2, a3, a4, a5, a6, a7, a8, a9) → f a1 a2 a3 a4 a5 a6 a7 a8 a9 = some r) := by
  obtain ⟨x, h1, h2, h3⟩ := bL_some h
  exact ⟨x, h1, h2, fun a1 a2 a3 a4 a5 a6 a7 a8 a9 h => h3 (a1, a2, a3, a4, a5, a6, a7, a8, a9) h⟩
def u10 {A1 A2 A3 A4 A5 A6 A7 A8 A9 A10 β : Type} (f : A1 → A2 → A3 → A4 → A5 → A6 → A7 → A8 → A9 → A10 → β) (q : A1 × A2 × A3 × A4 × A5 × A6 × A7 × A8 × A9 × A10) : β := f q.1 q.2.1 q.2.2.1 q.2.2.2.1 q.2.2.2.2.1 q.2.2.2.2.2.1 q.2.2.2.2.2.2.1 q.2.2.2.2.2.2.2.1 q.2.2.2.2.2.2.2.2.1 q.2.2.2.2.2.2.2.2.2
theorem bO_s10 {A1 A2 A3 A4 A5 A6 A7 A8 A9 A10 β : Type} {o : Option (A1 × A2 × A3 × A4 × A5 × A6 × A7 × A8 × A9 × A10)} {f : A1 → A2 → A3 → A4 → A5 → A6 → A7 → A8 → A9 → A10 → Option β} {r : β} (h : bO o (u10 f) = some r) : ∃ a1 a2 a3 a4 a5 a6 a7 a8 a9 a10, o = some (a1, a2, a3, a4, a5, a6, a7, a8, a9, a10) ∧ f a1 a2 a3 a4 a5 a6 a7 a8 a9 a10 = some r := by
  cases o with
  | none => cases h
  | some q => exact ⟨q.1, q.2.1, q.2.2.1, q.2.2.2.1, q.2.2.2.2.1, q.2.2.2.2.2.1, q.2.2.2.2.2.2.1, q.2.2.2.2.2.2.2.1, q.2.2.2.2.2.2.2.2.1, q.2.2.2.2.2.2.2.2.2, rfl, h⟩
theorem bT_s10 {A1 A2 A3 A4 A5 A6 A7 A8 A9 A10 γ : Type} {o : Option (γ ⊕ (A1 × A2 × A3 × A4 × A5 × A6 × A7 × A8 × A9 × A10))} {f : A1 → A2 → A3 → A4 → A5 → A6 → A7 → A8 → A9 → A10 → Option (γ)} {r : γ} (h : bT o (u10 f) = some r) : ∃ x, o = some x ∧ (∀ a, x = .inl a → a = r) ∧ (∀ a1 a2 a3 a4 a5 a6 a7 a8 a9 a10, x = .inr (a1, a2, a3, a4, a5, a6, a7, a8, a9, a10) → f a1 a2 a3 a4 a5 a6 a7 a8 a9 a10 = some r) := by
  obtain ⟨x, h1, h2, h3⟩ := bT_some h
  exact ⟨x, h1, h2, fun a1 a2 a3 a4 a5 a6 a7 a8 a9 a10 h => h3 (a1, a2, a3, a4, a5, a6, a7, a8, a9, a10) h⟩
theorem bL_s10 {A1 A2 A3 A4 A5 A6 A7 A8 A9 A10 γ δ : Type} {o : Option (γ ⊕ (A1 × A2 × A3 × A4 × A5 × A6 × A7 × A8 × A9 × A10))} {f : A1 → A2 → A3 → A4 → A5 → A6 → A7 → A8 → A9 → A10 → Option (γ ⊕ δ)} {r : γ ⊕ δ} (h : bL o (u10 f) = some r) : ∃ x, o = some x ∧ (∀ a, x = .inl a → Sum.inl a = r) ∧ (∀ a1 a2 a3 a4 a5 a6 a7 a8 a9 a10, x = .inr (a1, a2, a3, a4, a5, a6, a7, a8, a9, a10) → f a1 a2 a3 a4 a5 a6 a7 a8 a9 a10 = some r) := by
  obtain ⟨x, h1, h2, h3⟩ := bL_some h
  exact ⟨x, h1, h2, fun a1 a2 a3 a4 a5 a6 a7 a8 a9 a10 h => h3 (a1, a2, a3, a4, a5, a6, a7, a8, a9, a10) h⟩
def u13 {A1 A2 A3 A4 A5 A6 A7 A8 A9 A10 A11 A12 A13 β : Type} (f : A1 → A2 → A3 → A4 → A5 → A6 → A7 → A8 → A9 → A10 → A11 → A12 → A13 → β) (q : A1 × A2 × A3 × A4 × A5 × A6 × A7 × A8 × A9 × A10 × A11 × A12 × A13) : β := f q.1 q.2.1 q.2.2.1 q.2.2.2.1 q.2.2.2.2.1 q.2.2.2.2.2.1 q.2.2.2.2.2.2.1 q.2.2.2.2.2.2.2.1 q.2.2.2.2.2.2.2.2.1 q.2.2.2.2.2.2.2.2.2.1 q.2.2.2.2.2.2.2.2.2.2.1 q.2.2.2.2.2.2.2.2.2.2.2.1 q.2.2.2.2.2.2.2.2.2.2.2.2
theorem bO_s13 {A1 A2 A3 A4 A5 A6 A7 A8 A9 A10 A11 A12 A13 β : Type} {o : Option (A1 × A2 × A3 × A4 × A5 × A6 × A7 × A8 × A9 × A10 × A11 × A12 × A13)} {f : A1 → A2 → A3 → A4 → A5 → A6 → A7 → A8 → A9 → A10 → A11 → A12 → A13 → Option β} {r : β} (h : bO o (u13 f) = some r) : ∃ a1 a2 a3 a4 a5 a6 a7 a8 a9 a10 a11 a12 a13, o = some (a1, a2, a3, a4, a5, a6, a7, a8, a9, a10, a11, a12, a13) ∧ f a1 a2 a3 a4 a5 a6 a7 a8 a9 a10 a11 a12 a13 = some r := by
  cases o with
  | none => cases h
  | some q => exact ⟨q.1, q.2.1, q.2.2.1, q.2.2.2.1, q.2.2.2.2.1, q.2.2.2.2.2.1, q.2.2.2.2.2.2.1, q.2.2.2.2.2.2.2.1, q.2.2.2.2.2.2.2.2.1, q.2.2.2.2.2.2.2.2.2.1, q.2.2.2.2.2.2.2.2.2.2.1, q.2.2.2.2.2.2.2.2.2.2.2.1, q.2.2.2.2.2.2.2.2.2.2.2.2, rfl, h⟩
theorem bT_s13 {A1 A2 A3 A4 A5 A6 A7 A8 A9 A10 A11 A12 A13 γ : Type} {o : Option (γ ⊕ (A1 × A2 × A3 × A4 × A5 × A6 × A7 × A8 × A9 × A10 × A11 × A12 × A13))} {f : A1 → A2 → A3 → A4 → A5 → A6 → A7 → A8 → A9 → A10 → A11 → A12 → A13 → Option (γ)} {r : γ} (h : bT o (u13 f) = some r) : ∃ x, o = some x ∧ (∀ a, x = .inl a → a = r) ∧ (∀ a1 a2 a3 a4 a5 a6 a7 a8 a9 a10 a11 a12 a13, x = .inr (a1, a2, a3, a4, a5, a6, a7, a8, a9, a10, a11, a12, a13) → f a1 a2 a3 a4 a5 a6 a7 a8 a9 a10 a11 a12 a13 = some r) := by
  obtain ⟨x, h1, h2, h3⟩ := bT_some h
  exact ⟨x, h1, h2, fun a1 a2 a3 a4 a5 a6 a7 a8 a9 a10 a11 a12 a13 h => h3 (a1, a2, a3, a4, a5, a6, a7, a8, a9, a10, a11, a12, a13) h⟩
theorem bL_s13 {A1 A2 A3 A4 A5 A6 A7 A8 A9 A10 A11 A12 A13 γ δ : Type} {o : Option (γ ⊕ (A1 × A2 × A3 × A4 × A5 × A6 × A7 × A8 × A9 × A10 × A11 × A12 × A13))} {f : A1 → A2 → A3 → A4 → A5 → A6 → A7 → A8 → A9 → A10 → A11 → A12 → A13 → Option (γ ⊕ δ)} {r : γ ⊕ δ} (h : bL o (u13 f) = some r) : ∃ x, o = some x ∧ (∀ a, x = .inl a → Sum.inl a = r) ∧ (∀ a1 a2 a3 a4 a5 a6 a7 a8 a9 a10 a11 a12 a13, x = .inr (a1, a2, a3, a4, a5, a6, a7, a8, a9, a10, a11, a12, a13) → f a1 a2 a3 a4 a5 a6 a7 a8 a9 a10 a11 a12 a13 = some r) := by
  obtain ⟨x, h1, h2, h3⟩ := bL_some h
  exact ⟨x, h1, h2, fun a1 a2 a3 a4 a5 a6 a7 a8 a9 a10 a11 a12 a13 h => h3 (a1, a2, a3, a4, a5, a6, a7, a8, a9, a10, a11, a12, a13) h⟩
def u14 {A1 A2 A3 A4 A5 A6 A7 A8 A9 A10 A11 A12 A13 A14 β : Type} (f : A1 → A2 → A3 → A4 → A5 → A6 → A7 → A8 → A9 → A10 → A11 → A12 → A13 → A14 → β) (q : A1 × A2 × A3 × A4 × A5 × A6 × A7 × A8 × A9 × A10 × A11 × A12 × A13 × A14) : β := f q.1 q.2.1 q.2.2.1 q.2.2.2.1 q.2.2.2.2.1 q.2.2.2.2.2.1 q.2.2.2.2.2.2.1 q.2.2.2.2.2.2.2.1 q.2.2.2.2.2.2.2.2.1 q.2.2.2.2.2.2.2.2.2.1 q.2.2.2.2.2.2.2.2.2.2.1 q.2.2.2.2.2.2.2.2.2.2.2.1 q.2.2.2.2.2.2.2.2.2.2.2.2.1 q.2.2.2.2.2.2.2.2.2.2.2.2.2
theorem bO_s14 {A1 A2 A3 A4 A5 A6 A7 A8 A9 A10 A11 A12 A13 A14 β : Type} {o : Option (A1 × A2 × A3 × A4 × A5 × A6 × A7 × A8 × A9 × A10 × A11 × A12 × A13 × A14)} {f : A1 → A2 → A3 → A4 → A5 → A6 → A7 → A8 → A9 → A10 → A11 → A12 → A13 → A14 → Option β} {r : β} (h : bO o (u14 f) = some r) : ∃ a1 a2 a3 a4 a5 a6 a7 a8 a9 a10 a11 a12 a13 a14, o = some (a1, a2, a3, a4, a5, a6, a7, a8, a9, a10, a11, a12, a13, a14) ∧ f a1 a2 a3 a4 a5 a6 a7 a8 a9 a10 a11 a12 a13 a14 = some r := by
  cases o with
  | none => cases h
  | some q => exact ⟨q.1, q.2.1, q.2.2.1, q.2.2.2.1, q.2.2.2.2.1, q.2.2.2.2.2.1, q.2.2.2.2.2.2.1, q.2.2.2.2.2.2.2.1, q.2.2.2.2.2.2.2.2.1, q.2.2.2.2.2.2.2.2.2.1, q.2.2.2.2.2.2.2.2.2.2.1, q.2.2.2.2.2.2.2.2.2.2.2.1, q.2.2.2.2.2.2.2.2.2.2.2.2.1, q.2.2.2.2.2.2.2.2.2.2.2.2.2, rfl, h⟩
theorem bT_s14 {A1 A2 A3 A4 A5 A6 A7 A8 A9 A10 A11 A12 A13 A14 γ : Type} {o : Option (γ ⊕ (A1 × A2 × A3 × A4 × A5 × A6 × A7 × A8 × A9 × A10 × A11 × A12 × A13 × A14))} {f : A1 → A2 → A3 → A4 → A5 → A6 → A7 → A8 → A9 → A10 → A11 → A12 → A13 → A14 → Option (γ)} {r : γ} (h : bT o (u14 f) = some r) : ∃ x, o = some x ∧ (∀ a, x = .inl a → a = r) ∧ (∀ a1 a2 a3 a4 a5 a6 a7 a8 a9 a10 a11 a12 a13 a14, x = .inr (a1, a2, a3, a4, a5, a6, a7, a8, a9, a10, a11, a12, a13, a14) → f a1 a2 a3 a4 a5 a6 a7 a8 a9 a10 a11 a12 a13 a14 = some r) := by
  obtain ⟨x, h1, h2, h3⟩ := bT_some h
  exact ⟨x, h1, h2, fun a1 a2 a3 a4 a5 a6 a7 a8 a9 a10 a11 a12 a13 a14 h => h3 (a1, a2, a3, a4, a5, a6, a7, a8, a9, a10, a11, a12, a13, a14) h⟩
theorem bL_s14 {A1 A2 A3 A4 A5 A6 A7 A8 A9 A10 A11 A12 A13 A14 γ δ : Type} {o : Option (γ ⊕ (A1 × A2 × A3 × A4 × A5 × A6 × A7 × A8 × A9 × A10 × A11 × A12 × A13 × A14))} {f : A1 → A2 → A3 → A4 → A5 → A6 → A7 → A8 → A9 → A10 → A11 → A12 → A13 → A14 → Option (γ ⊕ δ)} {r : γ ⊕ δ} (h : bL o (u14 f) = some r) : ∃ x, o = some x ∧ (∀ a, x = .inl a → Sum.inl a = r) ∧ (∀ a1 a2 a3 a4 a5 a6 a7 a8 a9 a10 a11 a12 a13 a14, x = .inr (a1, a2, a3, a4, a5, a6, a7, a8, a9, a10, a11, a12, a13, a14) → f a1 a2 a3 a4 a5 a6 a7 a8 a9 a10 a11 a12 a13 a14 = some r) := by
  obtain ⟨x, h1, h2, h3⟩ := bL_some h
  exact ⟨x, h1, h2, fun a1 a2 a3 a4 a5 a6 a7 a8 a9 a10 a11 a12 a13 a14 h => h3 (a1, a2, a3, a4, a5, a6, a7, a8, a9, a10, a11, a12, a13, a14) h⟩
def u23 {A1 A2 A3 A4 A5 A6 A7 A8 A9 A10 A11 A12 A13 A14 A15 A16 A17 A18 A19 A20 A21 A22 A23 β : Type} (f : A1 → A2 → A3 → A4 → A5 → A6 → A7 → A8 → A9 → A10 → A11 → A12 → A13 → A14 → A15 → A16 → A17 → A18 → A19 → A20 → A21 → A22 → A23 → β) (q : A1 × A2 × A3 × A4 × A5 × A6 × A7 × A8 × A9 × A10 × A11 × A12 × A13 × A14 × A15 × A16 × A17 × A18 × A19 × A20 × A21 × A22 × A23) : β := f q.1 q.2.1 q.2.2.1 q.2.2.2.1 q.2.2.2.2.1 q.2.2.2.2.2.1 q.2.2.2.2.2.2.1 q.2.2.2.2.2.2.2.1 q.2.2.2.2.2.2.2.2.1 q.2.2.2.2.2.2.2.2.2.1 q.2.2.2.2.2.2.2.2.2.2.1 q.2.2.2.2.2.2.2.2.2.2.2.1 q.2.2.2.2.2.2.2.2.2.2.2.2.1 q.2.2.2.2.2.2.2.2.2.2.2.2.2.1 q.2.2.2.2.2.2.2.2.2.2.2.2.2.2.1 q.2.2.2.2.2.2.2.2.2.2.2.2.2.2.2.1 q.2.2.2.2.2.2.2.2.2.2.2.2.2.2.2.2.1 q.2.2.2.2.2.2.2.2.2.2.2.2.2.2.2.2.2.1 q.2.2.2.2.2.2.2.2.2.2.2.2.2.2.2.2.2.2.1 q.2.2.2.2.2.2.2.2.2.2.2.2.2.2.2.2.2.2.2.1 q.2.2.2.2.2.2.2.2.2.2.2.2.2.2.2.2.2.2.2.2.1 q.2.2.2.2.2.2.2.2.2.2.2.2.2.2.2.2.2.2.2.2.2.1 q.2.2.2.2.2.2.2.2.2.2.2.2.2.2.2.2.2.2.2.2.2.2
theorem bO_s23 {A1 A2 A3 A4 A5 A6 A7 A8 A9 A10 A11 A12 A13 A14 A15 A16 A17 A18 A19 A20 A21 A22 A23 β : Type} {o : Option (A1 × A2 × A3 × A4 × A5 × A6 × A7 × A8 × A9 × A10 × A11 × A12 × A13 × A14 × A15 × A16 × A17 × A18 × A19 × A20 × A21 × A22 × A23)} {f : A1 → A2 → A3 → A4 → A5 → A6 → A7 → A8 → A9 → A10 → A11 → A12 → A13 → A14 → A15 → A16 → A17 → A18 → A19 → A20 → A21 → A22 → A23 → Option β} {r : β} (h : bO o (u23 f) = some r) : ∃ a1 a2 a3 a4 a5 a6 a7 a8 a9 a10 a11 a12 a13 a14 a15 a16 a17 a18 a19 a20 a21 a22 a23, o = some (a1, a2, a3, a4, a5, a6, a7, a8, a9, a10, a11, a12, a13, a14, a15, a16, a17, a18, a19, a20, a21, a22, a23) ∧ f a1 a2 a3 a4 a5 a6 a7 a8 a9 a10 a11 a12 a13 a14 a15 a16 a17 a18 a19 a20 a21 a22 a23 = some r := by
  cases o with
  | none => cases h
  | some q => exact ⟨q.1, q.2.1, q.2.2.1, q.2.2.2.1, q.2.2.2.2.1, q.2.2.2.2.2.1, q.2.2.2.2.2.2.1, q.2.2.2.2.2.2.2.1, q.2.2.2.2.2.2.2.2.1, q.2.2.2.2.2.2.2.2.2.1, q.2.2.2.2.2.2.2.2.2.2.1, q.2.2.2.2.2.2.2.2.2.2.2.1, q.2.2.2.2.2.2.2.2.2.2.2.2.1, q.2.2.2.2.2.2.2.2.2.2.2.2.2.1, q.2.2.2.2.2.2.2.2.2.2.2.2.2.2.1, q.2.2.2.2.2.2.2.2.2.2.2.2.2.2.2.1, q.2.2.2.2.2.2.2.2.2.2.2.2.2.2.2.2.1, q.2.2.2.2.2.2.2.2.2.2.2.2.2.2.2.2.2.1, q.2.2.2.2.2.2.2.2.2.2.2.2.2.2.2.2.2.2.1, q.2.2.2.2.2.2.2.2.2.2.2.2.2.2.2.2.2.2.2.1, q.2.2.2.2.2.2.2.2.2.2.2.2.2.2.2.2.2.2.2.2.1, q.2.2.2.2.2.2.2.2.2.2.2.2.2.2.2.2.2.2.2.2.2.1, q.2.2.2.2.2.2.2.2.2.2.2.2.2.2.2.2.2.2.2.2.2.2, rfl, h⟩
theorem bT_s23 {A1 A2 A3 A4 A5 A6 A7 A8 A9 A10 A11 A12 A13 A14 A15 A16 A17 A18 A19 A20 A21 A22 A23 γ : Type} {o : Option (γ ⊕ (A1 × A2 × A3 × A4 × A5 × A6 × A7 × A8 × A9 × A10 × A11 × A12 × A13 × A14 × A15 × A16 × A17 × A18 × A19 × A20 × A21 × A22 × A23))} {f : A1 → A2 → A3 → A4 → A5 → A6 → A7 → A8 → A9 → A10 → A11 → A12 → A13 → A14 → A15 → A16 → A17 → A18 → A19 → A20 → A21 → A22 → A23 → Option (γ)} {r : γ} (h : bT o (u23 f) = some r) : ∃ x, o = some x ∧ (∀ a, x = .inl a → a = r) ∧ (∀ a1 a2 a3 a4 a5 a6 a7 a8 a9 a10 a11 a12 a13 a14 a15 a16 a17 a18 a19 a20 a21 a22 a23, x = .inr (a1, a2, a3, a4, a5, a6, a7, a8, a9, a10, a11, a12, a13, a14, a15, a16, a17, a18, a19, a20, a21, a22, a23) → f a1 a2 a3 a4 a5 a6 a7 a8 a9 a10 a11 a12 a13 a14 a15 a16 a17 a18 a19 a20 a21 a22 a23 = some r) := by
  obtain ⟨x, h1, h2, h3⟩ := bT_some h
  exact ⟨x, h1, h2, fun a1 a2 a3 a4 a5 a6 a7 a8 a9 a10 a11 a12 a13 a14 a15 a16 a17 a18 a19 a20 a21 a22 a23 h => h3 (a1, a2, a3, a4, a5, a6, a7, a8, a9, a10, a11, a12, a13, a14, a15, a16, a17, a18, a19, a20, a21, a22, a23) h⟩
theorem bL_s23 {A1 A2 A3 A4 A5 A6 A7 A8 A9 A10 A11 A12 A13 A14 A15 A16 A17 A18 A19 A20 A21 A22 A23 γ δ : Type} {o : Option (γ ⊕ (A1 × A2 × A3 × A4 × A5 × A6 × A7 × A8 × A9 × A10 × A11 × A12 × A13 × A14 × A15 × A16 × A17 × A18 × A19 × A20 × A21 × A22 × A23))} {f : A1 → A2 → A3 → A4 → A5 → A6 → A7 → A8 → A9 → A10 → A11 → A12 → A13 → A14 → A15 → A16 → A17 → A18 → A19 → A20 → A21 → A22 → A23 → Option (γ ⊕ δ)} {r : γ ⊕ δ} (h : bL o (u23 f) = some r) : ∃ x, o = some x ∧ (∀ a, x = .inl a → Sum.inl a = r) ∧ (∀ a1 a2 a3 a4 a5 a6 a7 a8 a9 a10 a11 a12 a13 a14 a15 a16 a17 a18 a19 a20 a21 a22 a23, x = .inr (a1, a2, a3, a4, a5, a6, a7, a8, a9, a10, a11, a12, a13, a14, a15, a16, a17, a18, a19, a20, a21, a22, a23) → f a1 a2 a3 a4 a5 a6 a7 a8 a9 a10 a11 a12 a13 a14 a15 a16 a17 a18 a19 a20 a21 a22 a23 = some r) := by
  obtain ⟨x, h1, h2, h3⟩ := bL_some h
  exact ⟨x, h1, h2, fun a1 a2 a3 a4 a5 a6 a7 a8 a9 a10 a11 a12 a13 a14 a15 a16 a17 a18 a19 a20 a21 a22 a23 h => h3 (a1, a2, a3, a4, a5, a6, a7, a8, a9, a10, a11, a12, a13, a14, a15, a16, a17, a18, a19, a20, a21, a22, a23) h⟩
theorem m_sw_0_2 {x : Int32} (c0 : ¬ x = (0 : Int32)) (c1 : ¬ x = (1 : Int32)) (c2 : ¬ x = (2 : Int32)) : x.toInt < 0 ∨ 2 < x.toInt := by
  have h0 := lv_neT (a := 0) c0 (by decide)
  have h1 := lv_neT (a := 1) c1 (by decide)
  have h2 := lv_neT (a := 2) c2 (by decide)
  omega
theorem m_sw_0_5 {x : Int32} (c0 : ¬ x = (0 : Int32)) (c1 : ¬ x = (1 : Int32)) (c2 : ¬ x = (2 : Int32)) (c3 : ¬ x = (3 : Int32)) (c4 : ¬ x = (4 : Int32)) (c5 : ¬ x = (5 : Int32)) : x.toInt < 0 ∨ 5 < x.toInt := by
  have h0 := lv_neT (a := 0) c0 (by decide)
  have h1 := lv_neT (a := 1) c1 (by decide)
  have h2 := lv_neT (a := 2) c2 (by decide)
  have h3 := lv_neT (a := 3) c3 (by decide)
  have h4 := lv_neT (a := 4) c4 (by decide)
  have h5 := lv_neT (a := 5) c5 (by decide)
  omega
theorem m_sw_10_15 {x : Int32} (c0 : ¬ x = (10 : Int32)) (c1 : ¬ x = (11 : Int32)) (c2 : ¬ x = (12 : Int32)) (c3 : ¬ x = (13 : Int32)) (c4 : ¬ x = (14 : Int32)) (c5 : ¬ x = (15 : Int32)) : x.toInt < 10 ∨ 15 < x.toInt := by
  have h0 := lv_neT (a := 10) c0 (by decide)
  have h1 := lv_neT (a := 11) c1 (by decide)
  have h2 := lv_neT (a := 12) c2 (by decide)
  have h3 := lv_neT (a := 13) c3 (by decide)
  have h4 := lv_neT (a := 14) c4 (by decide)
  have h5 := lv_neT (a := 15) c5 (by decide)
  omega
