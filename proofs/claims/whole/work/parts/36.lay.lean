/-! THE LAYOUTS: the model (places from its own object on), the desk (printed by wip/whole/layout.py) -/
def lM : List mDs := [.inr (.inl (9, [0, 4, 0, 0, 0, 5, 6, 7, 0, 8, 9, 10, 11, 12, 13, 14, 0, 0, 1, 15, 0, 0, 0, 0, 0, 16, 17, 0, 0, 18, 19, 20, 21, 22, 23, 24, 0, 25, 26, 27, 28, 29, 0, 0, 1, 0, 0, 30, 0, 0, 31, 0])), .inl (1, 400), .inl (0, 2), .inl (0, 2), .inl (0, 2800), .inl (0, 200), .inl (0, 50), .inl (0, 200), .inl (0, 100), .inl (3, 200), .inl (3, 100), .inl (3, 50), .inl (3, 200), .inl (0, 200), .inl (0, 200), .inl (2, 100), .inl (0, 2100), .inl (0, 2100), .inl (0, 2100), .inl (0, 2100), .inl (3, 2100), .inl (0, 2100), .inl (0, 4200), .inl (0, 4200), .inl (3, 4200), .inl (0, 4200), .inl (0, 4200), .inl (0, 100), .inl (1, 400)]
theorem lM_0 : lM[0]? = some (.inr (.inl (9, [0, 4, 0, 0, 0, 5, 6, 7, 0, 8, 9, 10, 11, 12, 13, 14, 0, 0, 1, 15, 0, 0, 0, 0, 0, 16, 17, 0, 0, 18, 19, 20, 21, 22, 23, 24, 0, 25, 26, 27, 28, 29, 0, 0, 1, 0, 0, 30, 0, 0, 31, 0]))) := rfl
theorem lM_1 : lM[1]? = some (.inl (1, 400)) := rfl
theorem lM_2 : lM[2]? = some (.inl (0, 2)) := rfl
theorem lM_3 : lM[3]? = some (.inl (0, 2)) := rfl
theorem lM_4 : lM[4]? = some (.inl (0, 2800)) := rfl
theorem lM_5 : lM[5]? = some (.inl (0, 200)) := rfl
theorem lM_6 : lM[6]? = some (.inl (0, 50)) := rfl
theorem lM_7 : lM[7]? = some (.inl (0, 200)) := rfl
theorem lM_8 : lM[8]? = some (.inl (0, 100)) := rfl
theorem lM_9 : lM[9]? = some (.inl (3, 200)) := rfl
theorem lM_10 : lM[10]? = some (.inl (3, 100)) := rfl
theorem lM_11 : lM[11]? = some (.inl (3, 50)) := rfl
theorem lM_12 : lM[12]? = some (.inl (3, 200)) := rfl
theorem lM_13 : lM[13]? = some (.inl (0, 200)) := rfl
theorem lM_14 : lM[14]? = some (.inl (0, 200)) := rfl
theorem lM_15 : lM[15]? = some (.inl (2, 100)) := rfl
theorem lM_16 : lM[16]? = some (.inl (0, 2100)) := rfl
theorem lM_17 : lM[17]? = some (.inl (0, 2100)) := rfl
theorem lM_18 : lM[18]? = some (.inl (0, 2100)) := rfl
theorem lM_19 : lM[19]? = some (.inl (0, 2100)) := rfl
theorem lM_20 : lM[20]? = some (.inl (3, 2100)) := rfl
theorem lM_21 : lM[21]? = some (.inl (0, 2100)) := rfl
theorem lM_22 : lM[22]? = some (.inl (0, 4200)) := rfl
theorem lM_23 : lM[23]? = some (.inl (0, 4200)) := rfl
theorem lM_24 : lM[24]? = some (.inl (3, 4200)) := rfl
theorem lM_25 : lM[25]? = some (.inl (0, 4200)) := rfl
theorem lM_26 : lM[26]? = some (.inl (0, 4200)) := rfl
theorem lM_27 : lM[27]? = some (.inl (0, 100)) := rfl
theorem lM_28 : lM[28]? = some (.inl (1, 400)) := rfl
theorem lM_n : lM.length = 29 := rfl
def lD : List mDs := [.inr (.inl (8, [4, 0, 2, 2, 43, 50, 54, 66])), .inl (1, 400), .inr (.inl (5, [0, 0, 0, 6, 7, 8, 9, 10, 11, 12, 13, 14, 15, 16, 17, 21, 22, 23])), .inl (0, 200), .inl (0, 200), .inl (0, 200), .inl (0, 200), .inl (0, 200), .inl (0, 200), .inl (0, 50), .inl (0, 100), .inl (0, 100), .inl (0, 50), .inl (0, 100), .inr (.inr [15, 16, 17]), .inl (0, 200), .inl (0, 200), .inl (0, 200), .inl (0, 200), .inl (0, 200), .inl (0, 200), .inr (.inl (5, [0, 0, 0, 25, 26, 27, 28, 29, 30, 31, 32, 33, 34, 35, 36, 40, 41, 42])), .inl (0, 200), .inl (0, 200), .inl (0, 200), .inl (0, 200), .inl (0, 200), .inl (0, 200), .inl (0, 50), .inl (0, 100), .inl (0, 100), .inl (0, 50), .inl (0, 100), .inr (.inr [34, 35, 36]), .inl (0, 200), .inl (0, 200), .inl (0, 200), .inl (0, 200), .inl (0, 200), .inl (0, 200), .inr (.inl (6, [2, 0, 0, 0, 2, 0, 0, 44, 45, 0, 46, 47, 48, 49, 0])), .inl (0, 100), .inl (0, 100), .inl (0, 40), .inl (0, 40), .inl (0, 40), .inl (0, 40), .inr (.inl (3, [51, 52, 53, 0])), .inl (3, 200), .inl (3, 100), .inl (3, 50), .inr (.inl (4, [0, 0, 1, 55, 2, 0, 56, 61, 62, 63, 64, 65, 0, 0, 0, 0, 1])), .inl (3, 200), .inr (.inl (2, [57, 58, 59, 60, 0])), .inl (0, 1000), .inl (0, 1000), .inl (3, 1000), .inl (0, 1000), .inl (0, 2000), .inl (0, 2000), .inl (2, 2000), .inl (0, 2000), .inl (3, 2000), .inr (.inl (7, [67, 0])), .inl (1, 400)]
theorem lD_0 : lD[0]? = some (.inr (.inl (8, [4, 0, 2, 2, 43, 50, 54, 66]))) := rfl
theorem lD_1 : lD[1]? = some (.inl (1, 400)) := rfl
theorem lD_2 : lD[2]? = some (.inr (.inl (5, [0, 0, 0, 6, 7, 8, 9, 10, 11, 12, 13, 14, 15, 16, 17, 21, 22, 23]))) := rfl
theorem lD_3 : lD[3]? = some (.inl (0, 200)) := rfl
theorem lD_4 : lD[4]? = some (.inl (0, 200)) := rfl
theorem lD_5 : lD[5]? = some (.inl (0, 200)) := rfl
theorem lD_6 : lD[6]? = some (.inl (0, 200)) := rfl
theorem lD_7 : lD[7]? = some (.inl (0, 200)) := rfl
theorem lD_8 : lD[8]? = some (.inl (0, 200)) := rfl
theorem lD_9 : lD[9]? = some (.inl (0, 50)) := rfl
theorem lD_10 : lD[10]? = some (.inl (0, 100)) := rfl
theorem lD_11 : lD[11]? = some (.inl (0, 100)) := rfl
theorem lD_12 : lD[12]? = some (.inl (0, 50)) := rfl
theorem lD_13 : lD[13]? = some (.inl (0, 100)) := rfl
theorem lD_14 : lD[14]? = some (.inr (.inr [15, 16, 17])) := rfl
theorem lD_15 : lD[15]? = some (.inl (0, 200)) := rfl
theorem lD_16 : lD[16]? = some (.inl (0, 200)) := rfl
theorem lD_17 : lD[17]? = some (.inl (0, 200)) := rfl
theorem lD_18 : lD[18]? = some (.inl (0, 200)) := rfl
theorem lD_19 : lD[19]? = some (.inl (0, 200)) := rfl
theorem lD_20 : lD[20]? = some (.inl (0, 200)) := rfl
theorem lD_21 : lD[21]? = some (.inr (.inl (5, [0, 0, 0, 25, 26, 27, 28, 29, 30, 31, 32, 33, 34, 35, 36, 40, 41, 42]))) := rfl
theorem lD_22 : lD[22]? = some (.inl (0, 200)) := rfl
theorem lD_23 : lD[23]? = some (.inl (0, 200)) := rfl
theorem lD_24 : lD[24]? = some (.inl (0, 200)) := rfl
theorem lD_25 : lD[25]? = some (.inl (0, 200)) := rfl
theorem lD_26 : lD[26]? = some (.inl (0, 200)) := rfl
theorem lD_27 : lD[27]? = some (.inl (0, 200)) := rfl
theorem lD_28 : lD[28]? = some (.inl (0, 50)) := rfl
theorem lD_29 : lD[29]? = some (.inl (0, 100)) := rfl
theorem lD_30 : lD[30]? = some (.inl (0, 100)) := rfl
theorem lD_31 : lD[31]? = some (.inl (0, 50)) := rfl
theorem lD_32 : lD[32]? = some (.inl (0, 100)) := rfl
theorem lD_33 : lD[33]? = some (.inr (.inr [34, 35, 36])) := rfl
theorem lD_34 : lD[34]? = some (.inl (0, 200)) := rfl
theorem lD_35 : lD[35]? = some (.inl (0, 200)) := rfl
theorem lD_36 : lD[36]? = some (.inl (0, 200)) := rfl
theorem lD_37 : lD[37]? = some (.inl (0, 200)) := rfl
theorem lD_38 : lD[38]? = some (.inl (0, 200)) := rfl
theorem lD_39 : lD[39]? = some (.inl (0, 200)) := rfl
theorem lD_40 : lD[40]? = some (.inr (.inl (6, [2, 0, 0, 0, 2, 0, 0, 44, 45, 0, 46, 47, 48, 49, 0]))) := rfl
theorem lD_41 : lD[41]? = some (.inl (0, 100)) := rfl
theorem lD_42 : lD[42]? = some (.inl (0, 100)) := rfl
theorem lD_43 : lD[43]? = some (.inl (0, 40)) := rfl
theorem lD_44 : lD[44]? = some (.inl (0, 40)) := rfl
theorem lD_45 : lD[45]? = some (.inl (0, 40)) := rfl
theorem lD_46 : lD[46]? = some (.inl (0, 40)) := rfl
theorem lD_47 : lD[47]? = some (.inr (.inl (3, [51, 52, 53, 0]))) := rfl
theorem lD_48 : lD[48]? = some (.inl (3, 200)) := rfl
theorem lD_49 : lD[49]? = some (.inl (3, 100)) := rfl
theorem lD_50 : lD[50]? = some (.inl (3, 50)) := rfl
theorem lD_51 : lD[51]? = some (.inr (.inl (4, [0, 0, 1, 55, 2, 0, 56, 61, 62, 63, 64, 65, 0, 0, 0, 0, 1]))) := rfl
theorem lD_52 : lD[52]? = some (.inl (3, 200)) := rfl
theorem lD_53 : lD[53]? = some (.inr (.inl (2, [57, 58, 59, 60, 0]))) := rfl
theorem lD_54 : lD[54]? = some (.inl (0, 1000)) := rfl
theorem lD_55 : lD[55]? = some (.inl (0, 1000)) := rfl
theorem lD_56 : lD[56]? = some (.inl (3, 1000)) := rfl
theorem lD_57 : lD[57]? = some (.inl (0, 1000)) := rfl
theorem lD_58 : lD[58]? = some (.inl (0, 2000)) := rfl
theorem lD_59 : lD[59]? = some (.inl (0, 2000)) := rfl
theorem lD_60 : lD[60]? = some (.inl (2, 2000)) := rfl
theorem lD_61 : lD[61]? = some (.inl (0, 2000)) := rfl
theorem lD_62 : lD[62]? = some (.inl (3, 2000)) := rfl
theorem lD_63 : lD[63]? = some (.inr (.inl (7, [67, 0]))) := rfl
theorem lD_64 : lD[64]? = some (.inl (1, 400)) := rfl
theorem lD_n : lD.length = 65 := rfl
