theorem lx_0 : 0 < 70 := by decide
theorem ly_0 : lay 0 = (0, 11) := rfl
theorem lx_1 : 1 < 70 := by decide
theorem ly_1 : lay 1 = (0, 9) := rfl
theorem lx_2 : 2 < 70 := by decide
theorem ly_2 : lay 2 = (1, 200) := rfl
theorem lx_3 : 3 < 70 := by decide
theorem ly_3 : lay 3 = (0, 7) := rfl
theorem lx_4 : 4 < 70 := by decide
theorem ly_4 : lay 4 = (1, 4) := rfl
theorem lx_5 : 5 < 70 := by decide
theorem ly_5 : lay 5 = (1, 4) := rfl
theorem lx_6 : 6 < 70 := by decide
theorem ly_6 : lay 6 = (0, 4) := rfl
theorem lx_7 : 7 < 70 := by decide
theorem ly_7 : lay 7 = (1, 4) := rfl
theorem lx_8 : 8 < 70 := by decide
theorem ly_8 : lay 8 = (1, 4) := rfl
theorem lx_9 : 9 < 70 := by decide
theorem ly_9 : lay 9 = (1, 256) := rfl
theorem lx_10 : 10 < 70 := by decide
theorem ly_10 : lay 10 = (1, 16) := rfl
theorem lx_11 : 11 < 70 := by decide
theorem ly_11 : lay 11 = (1, 16) := rfl
theorem lx_12 : 12 < 70 := by decide
theorem ly_12 : lay 12 = (1, 128) := rfl
theorem lx_13 : 13 < 70 := by decide
theorem ly_13 : lay 13 = (0, 1) := rfl
theorem lx_14 : 14 < 70 := by decide
theorem ly_14 : lay 14 = (1, 4) := rfl
theorem lx_15 : 15 < 70 := by decide
theorem ly_15 : lay 15 = (1, 4) := rfl
theorem lx_16 : 16 < 70 := by decide
theorem ly_16 : lay 16 = (1, 16) := rfl
theorem lx_17 : 17 < 70 := by decide
theorem ly_17 : lay 17 = (1, 16) := rfl
theorem lx_18 : 18 < 70 := by decide
theorem ly_18 : lay 18 = (1, 16) := rfl
theorem lx_19 : 19 < 70 := by decide
theorem ly_19 : lay 19 = (0, 3) := rfl
theorem lx_20 : 20 < 70 := by decide
theorem ly_20 : lay 20 = (1, 3072) := rfl
theorem lx_21 : 21 < 70 := by decide
theorem ly_21 : lay 21 = (0, 2) := rfl
theorem lx_22 : 22 < 70 := by decide
theorem ly_22 : lay 22 = (1, 16) := rfl
theorem lx_23 : 23 < 70 := by decide
theorem ly_23 : lay 23 = (1, 16) := rfl
theorem lx_24 : 24 < 70 := by decide
theorem ly_24 : lay 24 = (0, 10) := rfl
theorem lx_25 : 25 < 70 := by decide
theorem ly_25 : lay 25 = (1, 1024) := rfl
theorem lx_26 : 26 < 70 := by decide
theorem ly_26 : lay 26 = (1, 5) := rfl
theorem lx_27 : 27 < 70 := by decide
theorem ly_27 : lay 27 = (1, 2560) := rfl
theorem lx_28 : 28 < 70 := by decide
theorem ly_28 : lay 28 = (2, 1024) := rfl
theorem lx_29 : 29 < 70 := by decide
theorem ly_29 : lay 29 = (0, 8) := rfl
theorem lx_30 : 30 < 70 := by decide
theorem ly_30 : lay 30 = (1, 4) := rfl
theorem lx_31 : 31 < 70 := by decide
theorem ly_31 : lay 31 = (1, 16) := rfl
theorem lx_32 : 32 < 70 := by decide
theorem ly_32 : lay 32 = (0, 5) := rfl
theorem lx_33 : 33 < 70 := by decide
theorem ly_33 : lay 33 = (1, 256) := rfl
theorem lx_34 : 34 < 70 := by decide
theorem ly_34 : lay 34 = (0, 8) := rfl
theorem lx_35 : 35 < 70 := by decide
theorem ly_35 : lay 35 = (1, 4) := rfl
theorem lx_36 : 36 < 70 := by decide
theorem ly_36 : lay 36 = (1, 16) := rfl
theorem lx_37 : 37 < 70 := by decide
theorem ly_37 : lay 37 = (0, 0) := rfl
theorem lx_38 : 38 < 70 := by decide
theorem ly_38 : lay 38 = (1, 20) := rfl
theorem lx_39 : 39 < 70 := by decide
theorem ly_39 : lay 39 = (1, 12) := rfl
theorem lx_40 : 40 < 70 := by decide
theorem ly_40 : lay 40 = (1, 12) := rfl
theorem lx_41 : 41 < 70 := by decide
theorem ly_41 : lay 41 = (0, 6) := rfl
theorem lx_42 : 42 < 70 := by decide
theorem ly_42 : lay 42 = (1, 128) := rfl
theorem lx_43 : 43 < 70 := by decide
theorem ly_43 : lay 43 = (1, 17) := rfl
theorem lx_44 : 44 < 70 := by decide
theorem ly_44 : lay 44 = (0, 12) := rfl
theorem lx_45 : 45 < 70 := by decide
theorem ly_45 : lay 45 = (1, 4) := rfl
theorem lx_46 : 46 < 70 := by decide
theorem ly_46 : lay 46 = (1, 4) := rfl
theorem lx_47 : 47 < 70 := by decide
theorem ly_47 : lay 47 = (1, 256) := rfl
theorem lx_48 : 48 < 70 := by decide
theorem ly_48 : lay 48 = (1, 16) := rfl
theorem lx_49 : 49 < 70 := by decide
theorem ly_49 : lay 49 = (1, 65536) := rfl
theorem lx_50 : 50 < 70 := by decide
theorem ly_50 : lay 50 = (1, 16) := rfl
theorem lx_51 : 51 < 70 := by decide
theorem ly_51 : lay 51 = (1, 16) := rfl
theorem lx_52 : 52 < 70 := by decide
theorem ly_52 : lay 52 = (1, 16) := rfl
theorem lx_53 : 53 < 70 := by decide
theorem ly_53 : lay 53 = (1, 16) := rfl
theorem lx_54 : 54 < 70 := by decide
theorem ly_54 : lay 54 = (1, 20) := rfl
theorem lx_55 : 55 < 70 := by decide
theorem ly_55 : lay 55 = (1, 240) := rfl
theorem lx_56 : 56 < 70 := by decide
theorem ly_56 : lay 56 = (1, 16) := rfl
theorem lx_57 : 57 < 70 := by decide
theorem ly_57 : lay 57 = (1, 17) := rfl
theorem lx_58 : 58 < 70 := by decide
theorem ly_58 : lay 58 = (1, 16) := rfl
theorem lx_59 : 59 < 70 := by decide
theorem ly_59 : lay 59 = (1, 16) := rfl
theorem lx_60 : 60 < 70 := by decide
theorem ly_60 : lay 60 = (1, 17) := rfl
theorem lx_61 : 61 < 70 := by decide
theorem ly_61 : lay 61 = (1, 16) := rfl
theorem lx_62 : 62 < 70 := by decide
theorem ly_62 : lay 62 = (1, 16) := rfl
theorem lx_63 : 63 < 70 := by decide
theorem ly_63 : lay 63 = (1, 16) := rfl
theorem lx_64 : 64 < 70 := by decide
theorem ly_64 : lay 64 = (3, 65536) := rfl
theorem lx_65 : 65 < 70 := by decide
theorem ly_65 : lay 65 = (1, 200) := rfl
theorem lx_66 : 66 < 70 := by decide
theorem ly_66 : lay 66 = (1, 200) := rfl
theorem lx_67 : 67 < 70 := by decide
theorem ly_67 : lay 67 = (4, 68) := rfl
theorem lx_68 : 68 < 70 := by decide
theorem ly_68 : lay 68 = (1, 4) := rfl
theorem lx_69 : 69 < 70 := by decide
theorem ly_69 : lay 69 = (1, 4) := rfl
theorem rb_0_0 : (refL.getD 0 [])[0]? = some true := rfl
theorem rb_0_1 : (refL.getD 0 [])[1]? = some true := rfl
theorem rb_0_2 : (refL.getD 0 [])[2]? = some true := rfl
theorem rb_0_3 : (refL.getD 0 [])[3]? = some false := rfl
theorem rb_0_4 : (refL.getD 0 [])[4]? = some false := rfl
theorem cn_0 : (vwCl[0]?).map (fun q => q.1) = some RX0 := rfl
theorem rb_1_0 : (refL.getD 1 [])[0]? = some true := rfl
theorem rb_1_1 : (refL.getD 1 [])[1]? = some true := rfl
theorem rb_1_2 : (refL.getD 1 [])[2]? = some true := rfl
theorem rb_1_3 : (refL.getD 1 [])[3]? = some true := rfl
theorem rb_1_4 : (refL.getD 1 [])[4]? = some true := rfl
theorem rb_1_5 : (refL.getD 1 [])[5]? = some true := rfl
theorem rb_1_6 : (refL.getD 1 [])[6]? = some false := rfl
theorem rb_1_7 : (refL.getD 1 [])[7]? = some false := rfl
theorem rb_1_8 : (refL.getD 1 [])[8]? = some false := rfl
theorem cn_1 : (vwCl[1]?).map (fun q => q.1) = some RX1 := rfl
theorem rb_2_0 : (refL.getD 2 [])[0]? = some true := rfl
theorem rb_2_1 : (refL.getD 2 [])[1]? = some true := rfl
theorem rb_2_2 : (refL.getD 2 [])[2]? = some true := rfl
theorem rb_2_3 : (refL.getD 2 [])[3]? = some false := rfl
theorem rb_2_4 : (refL.getD 2 [])[4]? = some false := rfl
theorem cn_2 : (vwCl[2]?).map (fun q => q.1) = some RX2 := rfl
theorem rb_3_0 : (refL.getD 3 [])[0]? = some true := rfl
theorem rb_3_1 : (refL.getD 3 [])[1]? = some true := rfl
theorem rb_3_2 : (refL.getD 3 [])[2]? = some false := rfl
theorem cn_3 : (vwCl[3]?).map (fun q => q.1) = some RX3 := rfl
theorem rb_4_0 : (refL.getD 4 [])[0]? = some true := rfl
theorem rb_4_1 : (refL.getD 4 [])[1]? = some true := rfl
theorem rb_4_2 : (refL.getD 4 [])[2]? = some true := rfl
theorem rb_4_3 : (refL.getD 4 [])[3]? = some true := rfl
theorem rb_4_4 : (refL.getD 4 [])[4]? = some true := rfl
theorem rb_4_5 : (refL.getD 4 [])[5]? = some true := rfl
theorem rb_4_6 : (refL.getD 4 [])[6]? = some false := rfl
theorem rb_4_7 : (refL.getD 4 [])[7]? = some false := rfl
theorem rb_4_8 : (refL.getD 4 [])[8]? = some false := rfl
theorem rb_4_9 : (refL.getD 4 [])[9]? = some false := rfl
theorem cn_4 : (vwCl[4]?).map (fun q => q.1) = some RX4 := rfl
theorem rb_5_0 : (refL.getD 5 [])[0]? = some true := rfl
theorem rb_5_1 : (refL.getD 5 [])[1]? = some true := rfl
theorem rb_5_2 : (refL.getD 5 [])[2]? = some true := rfl
theorem rb_5_3 : (refL.getD 5 [])[3]? = some true := rfl
theorem rb_5_4 : (refL.getD 5 [])[4]? = some false := rfl
theorem cn_5 : (vwCl[5]?).map (fun q => q.1) = some RX5 := rfl
theorem rb_6_0 : (refL.getD 6 [])[0]? = some true := rfl
theorem rb_6_1 : (refL.getD 6 [])[1]? = some false := rfl
theorem cn_6 : (vwCl[6]?).map (fun q => q.1) = some RX6 := rfl
theorem rb_7_0 : (refL.getD 7 [])[0]? = some true := rfl
theorem rb_7_1 : (refL.getD 7 [])[1]? = some true := rfl
theorem rb_7_2 : (refL.getD 7 [])[2]? = some true := rfl
theorem rb_7_3 : (refL.getD 7 [])[3]? = some false := rfl
theorem rb_7_4 : (refL.getD 7 [])[4]? = some false := rfl
theorem rb_7_5 : (refL.getD 7 [])[5]? = some false := rfl
theorem rb_7_6 : (refL.getD 7 [])[6]? = some false := rfl
theorem rb_7_7 : (refL.getD 7 [])[7]? = some false := rfl
theorem rb_7_8 : (refL.getD 7 [])[8]? = some false := rfl
theorem cn_7 : (vwCl[7]?).map (fun q => q.1) = some RX7 := rfl
theorem rb_8_0 : (refL.getD 8 [])[0]? = some true := rfl
theorem rb_8_1 : (refL.getD 8 [])[1]? = some true := rfl
theorem rb_8_2 : (refL.getD 8 [])[2]? = some true := rfl
theorem rb_8_3 : (refL.getD 8 [])[3]? = some true := rfl
theorem rb_8_4 : (refL.getD 8 [])[4]? = some false := rfl
theorem cn_8 : (vwCl[8]?).map (fun q => q.1) = some RX8 := rfl
theorem rb_9_0 : (refL.getD 9 [])[0]? = some true := rfl
theorem rb_9_1 : (refL.getD 9 [])[1]? = some false := rfl
theorem cn_9 : (vwCl[9]?).map (fun q => q.1) = some RX9 := rfl
theorem rb_10_0 : (refL.getD 10 [])[0]? = some true := rfl
theorem rb_10_1 : (refL.getD 10 [])[1]? = some true := rfl
theorem rb_10_2 : (refL.getD 10 [])[2]? = some true := rfl
theorem rb_10_3 : (refL.getD 10 [])[3]? = some true := rfl
theorem rb_10_4 : (refL.getD 10 [])[4]? = some true := rfl
theorem rb_10_5 : (refL.getD 10 [])[5]? = some true := rfl
theorem rb_10_6 : (refL.getD 10 [])[6]? = some true := rfl
theorem rb_10_7 : (refL.getD 10 [])[7]? = some false := rfl
theorem rb_10_8 : (refL.getD 10 [])[8]? = some false := rfl
theorem rb_10_9 : (refL.getD 10 [])[9]? = some false := rfl
theorem cn_10 : (vwCl[10]?).map (fun q => q.1) = some RX10 := rfl
theorem rb_11_0 : (refL.getD 11 [])[0]? = some true := rfl
theorem rb_11_1 : (refL.getD 11 [])[1]? = some true := rfl
theorem rb_11_2 : (refL.getD 11 [])[2]? = some true := rfl
theorem rb_11_3 : (refL.getD 11 [])[3]? = some true := rfl
theorem rb_11_4 : (refL.getD 11 [])[4]? = some true := rfl
theorem rb_11_5 : (refL.getD 11 [])[5]? = some true := rfl
theorem rb_11_6 : (refL.getD 11 [])[6]? = some true := rfl
theorem rb_11_7 : (refL.getD 11 [])[7]? = some true := rfl
theorem rb_11_8 : (refL.getD 11 [])[8]? = some true := rfl
theorem rb_11_9 : (refL.getD 11 [])[9]? = some true := rfl
theorem rb_11_10 : (refL.getD 11 [])[10]? = some true := rfl
theorem cn_11 : (vwCl[11]?).map (fun q => q.1) = some RX11 := rfl
theorem rb_12_0 : (refL.getD 12 [])[0]? = some false := rfl
theorem rb_12_1 : (refL.getD 12 [])[1]? = some false := rfl
theorem rb_12_2 : (refL.getD 12 [])[2]? = some false := rfl
theorem rb_12_3 : (refL.getD 12 [])[3]? = some true := rfl
theorem rb_12_4 : (refL.getD 12 [])[4]? = some true := rfl
theorem rb_12_5 : (refL.getD 12 [])[5]? = some true := rfl
theorem rb_12_6 : (refL.getD 12 [])[6]? = some true := rfl
theorem rb_12_7 : (refL.getD 12 [])[7]? = some true := rfl
theorem rb_12_8 : (refL.getD 12 [])[8]? = some true := rfl
theorem rb_12_9 : (refL.getD 12 [])[9]? = some false := rfl
theorem rb_12_10 : (refL.getD 12 [])[10]? = some true := rfl
theorem rb_12_11 : (refL.getD 12 [])[11]? = some true := rfl
theorem rb_12_12 : (refL.getD 12 [])[12]? = some true := rfl
theorem rb_12_13 : (refL.getD 12 [])[13]? = some true := rfl
theorem rb_12_14 : (refL.getD 12 [])[14]? = some true := rfl
theorem rb_12_15 : (refL.getD 12 [])[15]? = some false := rfl
theorem rb_12_16 : (refL.getD 12 [])[16]? = some true := rfl
theorem rb_12_17 : (refL.getD 12 [])[17]? = some true := rfl
theorem rb_12_18 : (refL.getD 12 [])[18]? = some true := rfl
theorem rb_12_19 : (refL.getD 12 [])[19]? = some true := rfl
theorem rb_12_20 : (refL.getD 12 [])[20]? = some true := rfl
theorem rb_12_21 : (refL.getD 12 [])[21]? = some true := rfl
theorem rb_12_22 : (refL.getD 12 [])[22]? = some false := rfl
theorem rb_12_23 : (refL.getD 12 [])[23]? = some true := rfl
theorem rb_12_24 : (refL.getD 12 [])[24]? = some true := rfl
theorem rb_12_25 : (refL.getD 12 [])[25]? = some true := rfl
theorem rb_12_26 : (refL.getD 12 [])[26]? = some false := rfl
theorem rb_12_27 : (refL.getD 12 [])[27]? = some true := rfl
theorem rb_12_28 : (refL.getD 12 [])[28]? = some false := rfl
theorem rb_12_29 : (refL.getD 12 [])[29]? = some true := rfl
theorem rb_12_30 : (refL.getD 12 [])[30]? = some false := rfl
theorem rb_12_31 : (refL.getD 12 [])[31]? = some true := rfl
theorem rb_12_32 : (refL.getD 12 [])[32]? = some false := rfl
theorem rb_12_33 : (refL.getD 12 [])[33]? = some false := rfl
theorem rb_12_34 : (refL.getD 12 [])[34]? = some false := rfl
theorem rb_12_35 : (refL.getD 12 [])[35]? = some false := rfl
theorem rb_12_36 : (refL.getD 12 [])[36]? = some false := rfl
theorem rb_12_37 : (refL.getD 12 [])[37]? = some true := rfl
theorem rb_12_38 : (refL.getD 12 [])[38]? = some true := rfl
theorem rb_12_39 : (refL.getD 12 [])[39]? = some false := rfl
theorem rb_12_40 : (refL.getD 12 [])[40]? = some false := rfl
theorem rb_12_41 : (refL.getD 12 [])[41]? = some false := rfl
theorem cn_12 : (vwCl[12]?).map (fun q => q.1) = some RX12 := rfl
theorem rr_1_0 : r0 1 0 = some 2 := by decide +kernel
theorem rr_0_0 : r0 0 0 = some 1 := by decide +kernel
theorem rr_3_1 : r0 3 1 = some 4 := by decide +kernel
theorem rr_3_2 : r0 3 2 = some 5 := by decide +kernel
theorem rr_3_0 : r0 3 0 = some 1 := by decide +kernel
theorem rr_0_1 : r0 0 1 = some 3 := by decide +kernel
theorem rr_6_0 : r0 6 0 = some 7 := by decide +kernel
theorem rr_6_1 : r0 6 1 = some 8 := by decide +kernel
theorem rr_6_2 : r0 6 2 = some 9 := by decide +kernel
theorem rr_6_3 : r0 6 3 = some 10 := by decide +kernel
theorem rr_6_4 : r0 6 4 = some 11 := by decide +kernel
theorem rr_6_5 : r0 6 5 = some 12 := by decide +kernel
theorem rr_0_2 : r0 0 2 = some 6 := by decide +kernel
theorem rr_13_1 : r0 13 1 = some 14 := by decide +kernel
theorem rr_13_2 : r0 13 2 = some 15 := by decide +kernel
theorem rr_13_3 : r0 13 3 = some 16 := by decide +kernel
theorem rr_13_4 : r0 13 4 = some 17 := by decide +kernel
theorem rr_13_5 : r0 13 5 = some 18 := by decide +kernel
theorem rr_13_0 : r0 13 0 = some 6 := by decide +kernel
theorem rr_0_3 : r0 0 3 = some 13 := by decide +kernel
theorem rr_19_1 : r0 19 1 = some 20 := by decide +kernel
theorem rr_19_0 : r0 19 0 = some 6 := by decide +kernel
theorem rr_0_4 : r0 0 4 = some 19 := by decide +kernel
theorem rr_21_1 : r0 21 1 = some 22 := by decide +kernel
theorem rr_21_2 : r0 21 2 = some 23 := by decide +kernel
theorem rr_21_0 : r0 21 0 = some 6 := by decide +kernel
theorem rr_0_5 : r0 0 5 = some 21 := by decide +kernel
theorem rr_24_3 : r0 24 3 = some 25 := by decide +kernel
theorem rr_24_4 : r0 24 4 = some 26 := by decide +kernel
theorem rr_24_5 : r0 24 5 = some 27 := by decide +kernel
theorem rr_24_6 : r0 24 6 = some 28 := by decide +kernel
theorem rr_24_0 : r0 24 0 = some 6 := by decide +kernel
theorem rr_24_1 : r0 24 1 = some 13 := by decide +kernel
theorem rr_29_2 : r0 29 2 = some 30 := by decide +kernel
theorem rr_29_3 : r0 29 3 = some 31 := by decide +kernel
theorem rr_29_0 : r0 29 0 = some 6 := by decide +kernel
theorem rr_29_1 : r0 29 1 = some 13 := by decide +kernel
theorem rr_24_2 : r0 24 2 = some 29 := by decide +kernel
theorem rr_0_6 : r0 0 6 = some 24 := by decide +kernel
theorem rr_32_3 : r0 32 3 = some 33 := by decide +kernel
theorem rr_32_0 : r0 32 0 = some 6 := by decide +kernel
theorem rr_32_1 : r0 32 1 = some 13 := by decide +kernel
theorem rr_34_2 : r0 34 2 = some 35 := by decide +kernel
theorem rr_34_3 : r0 34 3 = some 36 := by decide +kernel
theorem rr_34_0 : r0 34 0 = some 6 := by decide +kernel
theorem rr_34_1 : r0 34 1 = some 13 := by decide +kernel
theorem rr_32_2 : r0 32 2 = some 34 := by decide +kernel
theorem rr_0_7 : r0 0 7 = some 32 := by decide +kernel
theorem rr_37_0 : r0 37 0 = some 38 := by decide +kernel
theorem rr_37_1 : r0 37 1 = some 39 := by decide +kernel
theorem rr_37_2 : r0 37 2 = some 40 := by decide +kernel
theorem rr_0_8 : r0 0 8 = some 37 := by decide +kernel
theorem rr_41_0 : r0 41 0 = some 42 := by decide +kernel
theorem rr_0_9 : r0 0 9 = some 41 := by decide +kernel
theorem rr_0_10 : r0 0 10 = some 43 := by decide +kernel
theorem rr_44_3 : r0 44 3 = some 45 := by decide +kernel
theorem rr_44_4 : r0 44 4 = some 46 := by decide +kernel
theorem rr_44_5 : r0 44 5 = some 47 := by decide +kernel
theorem rr_44_6 : r0 44 6 = some 48 := by decide +kernel
theorem rr_44_7 : r0 44 7 = some 49 := by decide +kernel
theorem rr_44_8 : r0 44 8 = some 50 := by decide +kernel
theorem rr_44_10 : r0 44 10 = some 51 := by decide +kernel
theorem rr_44_11 : r0 44 11 = some 52 := by decide +kernel
theorem rr_44_12 : r0 44 12 = some 53 := by decide +kernel
theorem rr_44_13 : r0 44 13 = some 54 := by decide +kernel
theorem rr_44_14 : r0 44 14 = some 55 := by decide +kernel
theorem rr_44_16 : r0 44 16 = some 56 := by decide +kernel
theorem rr_44_17 : r0 44 17 = some 57 := by decide +kernel
theorem rr_44_18 : r0 44 18 = some 58 := by decide +kernel
theorem rr_44_19 : r0 44 19 = some 59 := by decide +kernel
theorem rr_44_20 : r0 44 20 = some 60 := by decide +kernel
theorem rr_44_21 : r0 44 21 = some 61 := by decide +kernel
theorem rr_44_23 : r0 44 23 = some 62 := by decide +kernel
theorem rr_44_24 : r0 44 24 = some 63 := by decide +kernel
theorem rr_44_25 : r0 44 25 = some 64 := by decide +kernel
theorem rr_44_27 : r0 44 27 = some 65 := by decide +kernel
theorem rr_44_29 : r0 44 29 = some 66 := by decide +kernel
theorem rr_44_31 : r0 44 31 = some 67 := by decide +kernel
theorem rr_44_37 : r0 44 37 = some 68 := by decide +kernel
theorem rr_44_38 : r0 44 38 = some 69 := by decide +kernel
theorem cp_nat : Cond.native arraycopyName ∈ BIG := big_of 1005 (by decide +kernel) rfl
theorem cp_sta : Cond.static arraycopyName ∈ BIG := big_of 1004 (by decide +kernel) rfl
theorem cp_ini : Cond.initialized "java/lang/System" ∈ BIG := big_of 96 (by decide +kernel) rfl
theorem cp_RX10_78 : Cond.methodLink RX10 78 arraycopyName ∈ BIG := big_of 1003 (by decide +kernel) rfl
theorem cp_RX5_61 : Cond.methodLink RX5 61 arraycopyName ∈ BIG := big_of 1067 (by decide +kernel) rfl
theorem rm_13 {d x : Nat} (h : x ≤ 8) : x + 13 ≤ (rmD (d + 1)).locals := by
  show x + 13 ≤ 64 * (d + 1)
  omega
theorem rm_cp {d x : Nat} (h : x ≤ 8) : x + (nativeFrameWords "java/lang/System" "arraycopy" 5 + 11) ≤ (rmD (d + 1)).locals := by
  have e : nativeFrameWords "java/lang/System" "arraycopy" 5 + 11 ≤ 56 := by decide +kernel
  show x + _ ≤ 64 * (d + 1)
  omega
theorem b_tree {c : Prop} [Decidable c] {a b : Int32} (ha : a = 0 ∨ a = 1) (hb : b = 0 ∨ b = 1) : (if c then a else b) = 0 ∨ (if c then a else b) = 1 := by
  split <;> assumption
theorem tsw_12 {x : Int32} (c0 : ¬ x = 0) (c1 : ¬ x = 1) (c2 : ¬ x = 2) (c3 : ¬ x = 3) (c4 : ¬ x = 4) (c5 : ¬ x = 5) (c6 : ¬ x = 6) (c7 : ¬ x = 7) (c8 : ¬ x = 8) (c9 : ¬ x = 9) (c10 : ¬ x = 10) (c11 : ¬ x = 11) : x.toInt < 0 ∨ 11 < x.toInt := by
  have q : ∀ y : Int32, ¬ x = y → x.toInt ≠ y.toInt := fun y h e => h (Int32.toInt_inj.mp e)
  have d0 := q _ c0
  have d1 := q _ c1
  have d2 := q _ c2
  have d3 := q _ c3
  have d4 := q _ c4
  have d5 := q _ c5
  have d6 := q _ c6
  have d7 := q _ c7
  have d8 := q _ c8
  have d9 := q _ c9
  have d10 := q _ c10
  have d11 := q _ c11
  rw [show (0 : Int32).toInt = 0 from by decide] at d0
  rw [show (1 : Int32).toInt = 1 from by decide] at d1
  rw [show (2 : Int32).toInt = 2 from by decide] at d2
  rw [show (3 : Int32).toInt = 3 from by decide] at d3
  rw [show (4 : Int32).toInt = 4 from by decide] at d4
  rw [show (5 : Int32).toInt = 5 from by decide] at d5
  rw [show (6 : Int32).toInt = 6 from by decide] at d6
  rw [show (7 : Int32).toInt = 7 from by decide] at d7
  rw [show (8 : Int32).toInt = 8 from by decide] at d8
  rw [show (9 : Int32).toInt = 9 from by decide] at d9
  rw [show (10 : Int32).toInt = 10 from by decide] at d10
  rw [show (11 : Int32).toInt = 11 from by decide] at d11
  omega
section TSW
variable {F : VF} {cells slots n : Nat} {r : RT} {pc : Nat} {lv : List (Option Value)} {st : List Value} {w : Wd} {Z : VZ}
theorem V.tswIn {x x0 : Int32} {dflt lo hi off : Int} {offs : Array Int} {len t : Nat} (hd : decode F.2.1.2.2.1 pc = .ok (.tableswitch dflt lo hi offs, len)) (c : x = x0) (h1 : ¬ x0.toInt < lo) (h2 : ¬ hi < x0.toInt) (ho : offs[(x0.toInt - lo).toNat]? = some off) (ht : (pc : Int) + off = (t : Int)) (k : V F cells slots n r t lv st w Z) : V F cells slots n r pc lv (.int x :: st) w Z := by
  subst c
  exact fun h p l e s m args below meth c H locs ls C hP hz hS hl => lv_tableIn C.1 C.2.1 hd h1 h2 ho ht (k h p l e s m args below meth c H locs ls C hP hz hS hl)
theorem V.tswOut {x : Int32} {dflt lo hi : Int} {offs : Array Int} {len t : Nat} (hd : decode F.2.1.2.2.1 pc = .ok (.tableswitch dflt lo hi offs, len)) (h1 : x.toInt < lo ∨ hi < x.toInt) (ht : (pc : Int) + dflt = (t : Int)) (k : V F cells slots n r t lv st w Z) : V F cells slots n r pc lv (.int x :: st) w Z :=
  fun h p l e s m args below meth c H locs ls C hP hz hS hl => lv_tableOut C.1 C.2.1 hd h1 ht (k h p l e s m args below meth c H locs ls C hP hz hS hl)
end TSW
