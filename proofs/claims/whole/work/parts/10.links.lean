/-! the cells, and the tables' words by their places -/
def tbX : List sh_Ds := [.inl (10, [(2, 1), (2, 3), (2, 4), (2, 14), (2, 24), (2, 34), (2, 116), (2, 128), (2, 131), (0, 0), (0, 0)]), .inl (7, [(2, 2), (0, 0)]), .inr (0, 400, 0, 0), .inl (8, [(2, 1), (0, 0), (0, 0), (0, 0), (0, 0), (3, 0), (1, 0), (1, 0), (0, 0)]), .inl (5, [(0, 0), (0, 0), (0, 0), (0, 0), (2, 5), (2, 6), (2, 7), (2, 8), (2, 9), (2, 10), (2, 11), (2, 12), (2, 13)]), .inr (0, 40, 0, 0), .inr (0, 40, 0, 0), .inr (0, 40, 0, 0), .inr (1, 240, 0, 0), .inr (0, 240, 0, 0), .inr (0, 240, 0, 0), .inr (0, 240, 0, 0), .inr (0, 240, 0, 0), .inr (0, 240, 0, 0), .inl (5, [(0, 0), (0, 0), (0, 0), (0, 0), (2, 15), (2, 16), (2, 17), (2, 18), (2, 19), (2, 20), (2, 21), (2, 22), (2, 23)]), .inr (0, 40, 0, 0), .inr (0, 40, 0, 0), .inr (0, 40, 0, 0), .inr (1, 240, 0, 0), .inr (0, 240, 0, 0), .inr (0, 240, 0, 0), .inr (0, 240, 0, 0), .inr (0, 240, 0, 0), .inr (0, 240, 0, 0), .inl (5, [(0, 0), (0, 0), (0, 0), (0, 0), (2, 25), (2, 26), (2, 27), (2, 28), (2, 29), (2, 30), (2, 31), (2, 32), (2, 33)]), .inr (0, 40, 0, 0), .inr (0, 40, 0, 0), .inr (0, 40, 0, 0), .inr (1, 240, 0, 0), .inr (0, 240, 0, 0), .inr (0, 240, 0, 0), .inr (0, 240, 0, 0), .inr (0, 240, 0, 0), .inr (0, 240, 0, 0), .inl (1, [(2, 35), (0, 0), (0, 0)]), .inr (3, 8, 36, 10), .inl (5, [(0, 0), (0, 0), (0, 0), (0, 0), (2, 37), (2, 38), (2, 39), (2, 40), (2, 41), (2, 42), (2, 43), (2, 44), (2, 45)]), .inr (0, 40, 0, 0), .inr (0, 40, 0, 0), .inr (0, 40, 0, 0), .inr (1, 240, 0, 0), .inr (0, 240, 0, 0), .inr (0, 240, 0, 0), .inr (0, 240, 0, 0), .inr (0, 240, 0, 0), .inr (0, 240, 0, 0), .inl (5, [(0, 0), (0, 0), (0, 0), (0, 0), (2, 47), (2, 48), (2, 49), (2, 50), (2, 51), (2, 52), (2, 53), (2, 54), (2, 55)]), .inr (0, 40, 0, 0), .inr (0, 40, 0, 0), .inr (0, 40, 0, 0), .inr (1, 240, 0, 0), .inr (0, 240, 0, 0), .inr (0, 240, 0, 0), .inr (0, 240, 0, 0), .inr (0, 240, 0, 0), .inr (0, 240, 0, 0), .inl (5, [(0, 0), (0, 0), (0, 0), (0, 0), (2, 57), (2, 58), (2, 59), (2, 60), (2, 61), (2, 62), (2, 63), (2, 64), (2, 65)]), .inr (0, 40, 0, 0), .inr (0, 40, 0, 0), .inr (0, 40, 0, 0), .inr (1, 240, 0, 0), .inr (0, 240, 0, 0), .inr (0, 240, 0, 0), .inr (0, 240, 0, 0), .inr (0, 240, 0, 0), .inr (0, 240, 0, 0), .inl (5, [(0, 0), (0, 0), (0, 0), (0, 0), (2, 67), (2, 68), (2, 69), (2, 70), (2, 71), (2, 72), (2, 73), (2, 74), (2, 75)]), .inr (0, 40, 0, 0), .inr (0, 40, 0, 0), .inr (0, 40, 0, 0), .inr (1, 240, 0, 0), .inr (0, 240, 0, 0), .inr (0, 240, 0, 0), .inr (0, 240, 0, 0), .inr (0, 240, 0, 0), .inr (0, 240, 0, 0), .inl (5, [(0, 0), (0, 0), (0, 0), (0, 0), (2, 77), (2, 78), (2, 79), (2, 80), (2, 81), (2, 82), (2, 83), (2, 84), (2, 85)]), .inr (0, 40, 0, 0), .inr (0, 40, 0, 0), .inr (0, 40, 0, 0), .inr (1, 240, 0, 0), .inr (0, 240, 0, 0), .inr (0, 240, 0, 0), .inr (0, 240, 0, 0), .inr (0, 240, 0, 0), .inr (0, 240, 0, 0), .inl (5, [(0, 0), (0, 0), (0, 0), (0, 0), (2, 87), (2, 88), (2, 89), (2, 90), (2, 91), (2, 92), (2, 93), (2, 94), (2, 95)]), .inr (0, 40, 0, 0), .inr (0, 40, 0, 0), .inr (0, 40, 0, 0), .inr (1, 240, 0, 0), .inr (0, 240, 0, 0), .inr (0, 240, 0, 0), .inr (0, 240, 0, 0), .inr (0, 240, 0, 0), .inr (0, 240, 0, 0), .inl (5, [(0, 0), (0, 0), (0, 0), (0, 0), (2, 97), (2, 98), (2, 99), (2, 100), (2, 101), (2, 102), (2, 103), (2, 104), (2, 105)]), .inr (0, 40, 0, 0), .inr (0, 40, 0, 0), .inr (0, 40, 0, 0), .inr (1, 240, 0, 0), .inr (0, 240, 0, 0), .inr (0, 240, 0, 0), .inr (0, 240, 0, 0), .inr (0, 240, 0, 0), .inr (0, 240, 0, 0), .inl (5, [(0, 0), (0, 0), (0, 0), (0, 0), (2, 107), (2, 108), (2, 109), (2, 110), (2, 111), (2, 112), (2, 113), (2, 114), (2, 115)]), .inr (0, 40, 0, 0), .inr (0, 40, 0, 0), .inr (0, 40, 0, 0), .inr (1, 240, 0, 0), .inr (0, 240, 0, 0), .inr (0, 240, 0, 0), .inr (0, 240, 0, 0), .inr (0, 240, 0, 0), .inr (0, 240, 0, 0), .inl (2, [(2, 4), (2, 117), (2, 121), (2, 124), (0, 0)]), .inl (3, [(2, 118), (2, 119), (2, 120), (0, 0)]), .inr (0, 40, 0, 0), .inr (0, 40, 0, 0), .inr (0, 40, 0, 0), .inl (9, [(2, 122), (2, 123), (0, 0), (0, 0)]), .inr (0, 42, 0, 0), .inr (0, 2, 0, 0), .inl (4, [(2, 125), (2, 126), (2, 127), (0, 0)]), .inr (1, 240, 0, 0), .inr (0, 240, 0, 0), .inr (0, 240, 0, 0), .inl (6, [(2, 4), (2, 116), (2, 129), (2, 130), (0, 0)]), .inr (0, 4096, 0, 0), .inr (0, 240, 0, 0), .inr (4, 4, 132, 2), .inl (0, [(2, 133), (0, 0), (0, 0), (0, 0), (0, 0)]), .inr (0, 60, 0, 0), .inl (0, [(2, 135), (0, 0), (0, 0), (0, 0), (0, 0)]), .inr (0, 60, 0, 0), .inl (0, [(2, 137), (0, 0), (0, 0), (0, 0), (0, 0)]), .inr (0, 60, 0, 0), .inl (0, [(2, 139), (0, 0), (0, 0), (0, 0), (0, 0)]), .inr (0, 60, 0, 0)]
def tbM : List sh_Ds := [.inl (11, [(0, 0), (2, 1), (2, 2), (2, 3), (2, 4), (0, 0), (2, 5), (2, 6), (2, 7), (2, 8), (0, 0), (2, 9), (2, 10), (2, 11), (2, 12), (2, 13), (2, 14), (0, 0), (0, 0), (0, 0), (0, 0), (0, 0), (1, 0), (1, 0), (2, 15), (2, 16), (2, 17), (0, 0), (0, 0), (0, 0), (0, 0), (0, 0), (0, 0), (2, 18), (2, 19), (2, 20), (0, 0), (0, 0), (2, 21)]), .inr (0, 1084, 0, 0), .inr (1, 240, 0, 0), .inr (0, 8672, 0, 0), .inr (1, 1920, 0, 0), .inr (0, 1084, 0, 0), .inr (1, 240, 0, 0), .inr (0, 1084, 0, 0), .inr (1, 240, 0, 0), .inr (2, 4, 0, 0), .inr (0, 4, 0, 0), .inr (0, 4, 0, 0), .inr (0, 4, 0, 0), .inr (0, 240, 0, 0), .inr (0, 400, 0, 0), .inr (0, 40, 0, 0), .inr (0, 40, 0, 0), .inr (0, 40, 0, 0), .inr (1, 240, 0, 0), .inr (0, 240, 0, 0), .inr (0, 240, 0, 0), .inr (2, 4, 0, 0)]
theorem tbX_0 : tbX[0]? = some (.inl (10, [(2, 1), (2, 3), (2, 4), (2, 14), (2, 24), (2, 34), (2, 116), (2, 128), (2, 131), (0, 0), (0, 0)])) := rfl
theorem tbX_1 : tbX[1]? = some (.inl (7, [(2, 2), (0, 0)])) := rfl
theorem tbX_2 : tbX[2]? = some (.inr (0, 400, 0, 0)) := rfl
theorem tbX_3 : tbX[3]? = some (.inl (8, [(2, 1), (0, 0), (0, 0), (0, 0), (0, 0), (3, 0), (1, 0), (1, 0), (0, 0)])) := rfl
theorem tbX_4 : tbX[4]? = some (.inl (5, [(0, 0), (0, 0), (0, 0), (0, 0), (2, 5), (2, 6), (2, 7), (2, 8), (2, 9), (2, 10), (2, 11), (2, 12), (2, 13)])) := rfl
theorem tbX_5 : tbX[5]? = some (.inr (0, 40, 0, 0)) := rfl
theorem tbX_6 : tbX[6]? = some (.inr (0, 40, 0, 0)) := rfl
theorem tbX_7 : tbX[7]? = some (.inr (0, 40, 0, 0)) := rfl
theorem tbX_8 : tbX[8]? = some (.inr (1, 240, 0, 0)) := rfl
theorem tbX_9 : tbX[9]? = some (.inr (0, 240, 0, 0)) := rfl
theorem tbX_10 : tbX[10]? = some (.inr (0, 240, 0, 0)) := rfl
theorem tbX_11 : tbX[11]? = some (.inr (0, 240, 0, 0)) := rfl
theorem tbX_12 : tbX[12]? = some (.inr (0, 240, 0, 0)) := rfl
theorem tbX_13 : tbX[13]? = some (.inr (0, 240, 0, 0)) := rfl
theorem tbX_14 : tbX[14]? = some (.inl (5, [(0, 0), (0, 0), (0, 0), (0, 0), (2, 15), (2, 16), (2, 17), (2, 18), (2, 19), (2, 20), (2, 21), (2, 22), (2, 23)])) := rfl
theorem tbX_15 : tbX[15]? = some (.inr (0, 40, 0, 0)) := rfl
theorem tbX_16 : tbX[16]? = some (.inr (0, 40, 0, 0)) := rfl
theorem tbX_17 : tbX[17]? = some (.inr (0, 40, 0, 0)) := rfl
theorem tbX_18 : tbX[18]? = some (.inr (1, 240, 0, 0)) := rfl
theorem tbX_19 : tbX[19]? = some (.inr (0, 240, 0, 0)) := rfl
theorem tbX_20 : tbX[20]? = some (.inr (0, 240, 0, 0)) := rfl
theorem tbX_21 : tbX[21]? = some (.inr (0, 240, 0, 0)) := rfl
theorem tbX_22 : tbX[22]? = some (.inr (0, 240, 0, 0)) := rfl
theorem tbX_23 : tbX[23]? = some (.inr (0, 240, 0, 0)) := rfl
theorem tbX_24 : tbX[24]? = some (.inl (5, [(0, 0), (0, 0), (0, 0), (0, 0), (2, 25), (2, 26), (2, 27), (2, 28), (2, 29), (2, 30), (2, 31), (2, 32), (2, 33)])) := rfl
theorem tbX_25 : tbX[25]? = some (.inr (0, 40, 0, 0)) := rfl
theorem tbX_26 : tbX[26]? = some (.inr (0, 40, 0, 0)) := rfl
theorem tbX_27 : tbX[27]? = some (.inr (0, 40, 0, 0)) := rfl
theorem tbX_28 : tbX[28]? = some (.inr (1, 240, 0, 0)) := rfl
theorem tbX_29 : tbX[29]? = some (.inr (0, 240, 0, 0)) := rfl
theorem tbX_30 : tbX[30]? = some (.inr (0, 240, 0, 0)) := rfl
theorem tbX_31 : tbX[31]? = some (.inr (0, 240, 0, 0)) := rfl
theorem tbX_32 : tbX[32]? = some (.inr (0, 240, 0, 0)) := rfl
theorem tbX_33 : tbX[33]? = some (.inr (0, 240, 0, 0)) := rfl
theorem tbX_34 : tbX[34]? = some (.inl (1, [(2, 35), (0, 0), (0, 0)])) := rfl
theorem tbX_35 : tbX[35]? = some (.inr (3, 8, 36, 10)) := rfl
theorem tbX_36 : tbX[36]? = some (.inl (5, [(0, 0), (0, 0), (0, 0), (0, 0), (2, 37), (2, 38), (2, 39), (2, 40), (2, 41), (2, 42), (2, 43), (2, 44), (2, 45)])) := rfl
theorem tbX_37 : tbX[37]? = some (.inr (0, 40, 0, 0)) := rfl
theorem tbX_38 : tbX[38]? = some (.inr (0, 40, 0, 0)) := rfl
theorem tbX_39 : tbX[39]? = some (.inr (0, 40, 0, 0)) := rfl
theorem tbX_40 : tbX[40]? = some (.inr (1, 240, 0, 0)) := rfl
theorem tbX_41 : tbX[41]? = some (.inr (0, 240, 0, 0)) := rfl
theorem tbX_42 : tbX[42]? = some (.inr (0, 240, 0, 0)) := rfl
theorem tbX_43 : tbX[43]? = some (.inr (0, 240, 0, 0)) := rfl
theorem tbX_44 : tbX[44]? = some (.inr (0, 240, 0, 0)) := rfl
theorem tbX_45 : tbX[45]? = some (.inr (0, 240, 0, 0)) := rfl
theorem tbX_46 : tbX[46]? = some (.inl (5, [(0, 0), (0, 0), (0, 0), (0, 0), (2, 47), (2, 48), (2, 49), (2, 50), (2, 51), (2, 52), (2, 53), (2, 54), (2, 55)])) := rfl
theorem tbX_47 : tbX[47]? = some (.inr (0, 40, 0, 0)) := rfl
theorem tbX_48 : tbX[48]? = some (.inr (0, 40, 0, 0)) := rfl
theorem tbX_49 : tbX[49]? = some (.inr (0, 40, 0, 0)) := rfl
theorem tbX_50 : tbX[50]? = some (.inr (1, 240, 0, 0)) := rfl
theorem tbX_51 : tbX[51]? = some (.inr (0, 240, 0, 0)) := rfl
theorem tbX_52 : tbX[52]? = some (.inr (0, 240, 0, 0)) := rfl
theorem tbX_53 : tbX[53]? = some (.inr (0, 240, 0, 0)) := rfl
theorem tbX_54 : tbX[54]? = some (.inr (0, 240, 0, 0)) := rfl
theorem tbX_55 : tbX[55]? = some (.inr (0, 240, 0, 0)) := rfl
theorem tbX_56 : tbX[56]? = some (.inl (5, [(0, 0), (0, 0), (0, 0), (0, 0), (2, 57), (2, 58), (2, 59), (2, 60), (2, 61), (2, 62), (2, 63), (2, 64), (2, 65)])) := rfl
theorem tbX_57 : tbX[57]? = some (.inr (0, 40, 0, 0)) := rfl
theorem tbX_58 : tbX[58]? = some (.inr (0, 40, 0, 0)) := rfl
theorem tbX_59 : tbX[59]? = some (.inr (0, 40, 0, 0)) := rfl
theorem tbX_60 : tbX[60]? = some (.inr (1, 240, 0, 0)) := rfl
theorem tbX_61 : tbX[61]? = some (.inr (0, 240, 0, 0)) := rfl
theorem tbX_62 : tbX[62]? = some (.inr (0, 240, 0, 0)) := rfl
theorem tbX_63 : tbX[63]? = some (.inr (0, 240, 0, 0)) := rfl
theorem tbX_64 : tbX[64]? = some (.inr (0, 240, 0, 0)) := rfl
theorem tbX_65 : tbX[65]? = some (.inr (0, 240, 0, 0)) := rfl
theorem tbX_66 : tbX[66]? = some (.inl (5, [(0, 0), (0, 0), (0, 0), (0, 0), (2, 67), (2, 68), (2, 69), (2, 70), (2, 71), (2, 72), (2, 73), (2, 74), (2, 75)])) := rfl
theorem tbX_67 : tbX[67]? = some (.inr (0, 40, 0, 0)) := rfl
theorem tbX_68 : tbX[68]? = some (.inr (0, 40, 0, 0)) := rfl
theorem tbX_69 : tbX[69]? = some (.inr (0, 40, 0, 0)) := rfl
theorem tbX_70 : tbX[70]? = some (.inr (1, 240, 0, 0)) := rfl
theorem tbX_71 : tbX[71]? = some (.inr (0, 240, 0, 0)) := rfl
theorem tbX_72 : tbX[72]? = some (.inr (0, 240, 0, 0)) := rfl
theorem tbX_73 : tbX[73]? = some (.inr (0, 240, 0, 0)) := rfl
theorem tbX_74 : tbX[74]? = some (.inr (0, 240, 0, 0)) := rfl
theorem tbX_75 : tbX[75]? = some (.inr (0, 240, 0, 0)) := rfl
theorem tbX_76 : tbX[76]? = some (.inl (5, [(0, 0), (0, 0), (0, 0), (0, 0), (2, 77), (2, 78), (2, 79), (2, 80), (2, 81), (2, 82), (2, 83), (2, 84), (2, 85)])) := rfl
theorem tbX_77 : tbX[77]? = some (.inr (0, 40, 0, 0)) := rfl
theorem tbX_78 : tbX[78]? = some (.inr (0, 40, 0, 0)) := rfl
theorem tbX_79 : tbX[79]? = some (.inr (0, 40, 0, 0)) := rfl
theorem tbX_80 : tbX[80]? = some (.inr (1, 240, 0, 0)) := rfl
theorem tbX_81 : tbX[81]? = some (.inr (0, 240, 0, 0)) := rfl
theorem tbX_82 : tbX[82]? = some (.inr (0, 240, 0, 0)) := rfl
theorem tbX_83 : tbX[83]? = some (.inr (0, 240, 0, 0)) := rfl
theorem tbX_84 : tbX[84]? = some (.inr (0, 240, 0, 0)) := rfl
theorem tbX_85 : tbX[85]? = some (.inr (0, 240, 0, 0)) := rfl
theorem tbX_86 : tbX[86]? = some (.inl (5, [(0, 0), (0, 0), (0, 0), (0, 0), (2, 87), (2, 88), (2, 89), (2, 90), (2, 91), (2, 92), (2, 93), (2, 94), (2, 95)])) := rfl
theorem tbX_87 : tbX[87]? = some (.inr (0, 40, 0, 0)) := rfl
theorem tbX_88 : tbX[88]? = some (.inr (0, 40, 0, 0)) := rfl
theorem tbX_89 : tbX[89]? = some (.inr (0, 40, 0, 0)) := rfl
theorem tbX_90 : tbX[90]? = some (.inr (1, 240, 0, 0)) := rfl
theorem tbX_91 : tbX[91]? = some (.inr (0, 240, 0, 0)) := rfl
theorem tbX_92 : tbX[92]? = some (.inr (0, 240, 0, 0)) := rfl
theorem tbX_93 : tbX[93]? = some (.inr (0, 240, 0, 0)) := rfl
theorem tbX_94 : tbX[94]? = some (.inr (0, 240, 0, 0)) := rfl
theorem tbX_95 : tbX[95]? = some (.inr (0, 240, 0, 0)) := rfl
theorem tbX_96 : tbX[96]? = some (.inl (5, [(0, 0), (0, 0), (0, 0), (0, 0), (2, 97), (2, 98), (2, 99), (2, 100), (2, 101), (2, 102), (2, 103), (2, 104), (2, 105)])) := rfl
theorem tbX_97 : tbX[97]? = some (.inr (0, 40, 0, 0)) := rfl
theorem tbX_98 : tbX[98]? = some (.inr (0, 40, 0, 0)) := rfl
theorem tbX_99 : tbX[99]? = some (.inr (0, 40, 0, 0)) := rfl
theorem tbX_100 : tbX[100]? = some (.inr (1, 240, 0, 0)) := rfl
theorem tbX_101 : tbX[101]? = some (.inr (0, 240, 0, 0)) := rfl
theorem tbX_102 : tbX[102]? = some (.inr (0, 240, 0, 0)) := rfl
theorem tbX_103 : tbX[103]? = some (.inr (0, 240, 0, 0)) := rfl
theorem tbX_104 : tbX[104]? = some (.inr (0, 240, 0, 0)) := rfl
theorem tbX_105 : tbX[105]? = some (.inr (0, 240, 0, 0)) := rfl
theorem tbX_106 : tbX[106]? = some (.inl (5, [(0, 0), (0, 0), (0, 0), (0, 0), (2, 107), (2, 108), (2, 109), (2, 110), (2, 111), (2, 112), (2, 113), (2, 114), (2, 115)])) := rfl
theorem tbX_107 : tbX[107]? = some (.inr (0, 40, 0, 0)) := rfl
theorem tbX_108 : tbX[108]? = some (.inr (0, 40, 0, 0)) := rfl
theorem tbX_109 : tbX[109]? = some (.inr (0, 40, 0, 0)) := rfl
theorem tbX_110 : tbX[110]? = some (.inr (1, 240, 0, 0)) := rfl
theorem tbX_111 : tbX[111]? = some (.inr (0, 240, 0, 0)) := rfl
theorem tbX_112 : tbX[112]? = some (.inr (0, 240, 0, 0)) := rfl
theorem tbX_113 : tbX[113]? = some (.inr (0, 240, 0, 0)) := rfl
theorem tbX_114 : tbX[114]? = some (.inr (0, 240, 0, 0)) := rfl
theorem tbX_115 : tbX[115]? = some (.inr (0, 240, 0, 0)) := rfl
theorem tbX_116 : tbX[116]? = some (.inl (2, [(2, 4), (2, 117), (2, 121), (2, 124), (0, 0)])) := rfl
theorem tbX_117 : tbX[117]? = some (.inl (3, [(2, 118), (2, 119), (2, 120), (0, 0)])) := rfl
theorem tbX_118 : tbX[118]? = some (.inr (0, 40, 0, 0)) := rfl
theorem tbX_119 : tbX[119]? = some (.inr (0, 40, 0, 0)) := rfl
theorem tbX_120 : tbX[120]? = some (.inr (0, 40, 0, 0)) := rfl
theorem tbX_121 : tbX[121]? = some (.inl (9, [(2, 122), (2, 123), (0, 0), (0, 0)])) := rfl
theorem tbX_122 : tbX[122]? = some (.inr (0, 42, 0, 0)) := rfl
theorem tbX_123 : tbX[123]? = some (.inr (0, 2, 0, 0)) := rfl
theorem tbX_124 : tbX[124]? = some (.inl (4, [(2, 125), (2, 126), (2, 127), (0, 0)])) := rfl
theorem tbX_125 : tbX[125]? = some (.inr (1, 240, 0, 0)) := rfl
theorem tbX_126 : tbX[126]? = some (.inr (0, 240, 0, 0)) := rfl
theorem tbX_127 : tbX[127]? = some (.inr (0, 240, 0, 0)) := rfl
theorem tbX_128 : tbX[128]? = some (.inl (6, [(2, 4), (2, 116), (2, 129), (2, 130), (0, 0)])) := rfl
theorem tbX_129 : tbX[129]? = some (.inr (0, 4096, 0, 0)) := rfl
theorem tbX_130 : tbX[130]? = some (.inr (0, 240, 0, 0)) := rfl
theorem tbX_131 : tbX[131]? = some (.inr (4, 4, 132, 2)) := rfl
theorem tbX_132 : tbX[132]? = some (.inl (0, [(2, 133), (0, 0), (0, 0), (0, 0), (0, 0)])) := rfl
theorem tbX_133 : tbX[133]? = some (.inr (0, 60, 0, 0)) := rfl
theorem tbX_134 : tbX[134]? = some (.inl (0, [(2, 135), (0, 0), (0, 0), (0, 0), (0, 0)])) := rfl
theorem tbX_135 : tbX[135]? = some (.inr (0, 60, 0, 0)) := rfl
theorem tbX_136 : tbX[136]? = some (.inl (0, [(2, 137), (0, 0), (0, 0), (0, 0), (0, 0)])) := rfl
theorem tbX_137 : tbX[137]? = some (.inr (0, 60, 0, 0)) := rfl
theorem tbX_138 : tbX[138]? = some (.inl (0, [(2, 139), (0, 0), (0, 0), (0, 0), (0, 0)])) := rfl
theorem tbX_139 : tbX[139]? = some (.inr (0, 60, 0, 0)) := rfl
theorem tbM_0 : tbM[0]? = some (.inl (11, [(0, 0), (2, 1), (2, 2), (2, 3), (2, 4), (0, 0), (2, 5), (2, 6), (2, 7), (2, 8), (0, 0), (2, 9), (2, 10), (2, 11), (2, 12), (2, 13), (2, 14), (0, 0), (0, 0), (0, 0), (0, 0), (0, 0), (1, 0), (1, 0), (2, 15), (2, 16), (2, 17), (0, 0), (0, 0), (0, 0), (0, 0), (0, 0), (0, 0), (2, 18), (2, 19), (2, 20), (0, 0), (0, 0), (2, 21)])) := rfl
theorem tbM_1 : tbM[1]? = some (.inr (0, 1084, 0, 0)) := rfl
theorem tbM_2 : tbM[2]? = some (.inr (1, 240, 0, 0)) := rfl
theorem tbM_3 : tbM[3]? = some (.inr (0, 8672, 0, 0)) := rfl
theorem tbM_4 : tbM[4]? = some (.inr (1, 1920, 0, 0)) := rfl
theorem tbM_5 : tbM[5]? = some (.inr (0, 1084, 0, 0)) := rfl
theorem tbM_6 : tbM[6]? = some (.inr (1, 240, 0, 0)) := rfl
theorem tbM_7 : tbM[7]? = some (.inr (0, 1084, 0, 0)) := rfl
theorem tbM_8 : tbM[8]? = some (.inr (1, 240, 0, 0)) := rfl
theorem tbM_9 : tbM[9]? = some (.inr (2, 4, 0, 0)) := rfl
theorem tbM_10 : tbM[10]? = some (.inr (0, 4, 0, 0)) := rfl
theorem tbM_11 : tbM[11]? = some (.inr (0, 4, 0, 0)) := rfl
theorem tbM_12 : tbM[12]? = some (.inr (0, 4, 0, 0)) := rfl
theorem tbM_13 : tbM[13]? = some (.inr (0, 240, 0, 0)) := rfl
theorem tbM_14 : tbM[14]? = some (.inr (0, 400, 0, 0)) := rfl
theorem tbM_15 : tbM[15]? = some (.inr (0, 40, 0, 0)) := rfl
theorem tbM_16 : tbM[16]? = some (.inr (0, 40, 0, 0)) := rfl
theorem tbM_17 : tbM[17]? = some (.inr (0, 40, 0, 0)) := rfl
theorem tbM_18 : tbM[18]? = some (.inr (1, 240, 0, 0)) := rfl
theorem tbM_19 : tbM[19]? = some (.inr (0, 240, 0, 0)) := rfl
theorem tbM_20 : tbM[20]? = some (.inr (0, 240, 0, 0)) := rfl
theorem tbM_21 : tbM[21]? = some (.inr (2, 4, 0, 0)) := rfl
theorem inX2 : ∀ w ∈ u_ws RX2 TX2 5, w ∈ sh_ws := by
  intro w hw
  obtain ⟨k, hk, rfl⟩ := List.mem_map.mp hw
  have hk := List.mem_range.mp hk
  match k, hk with
  | 0, _ => exact sh_t2 (i := 112) (by decide +kernel) (by decide +kernel)
  | 1, _ => exact sh_t2 (i := 114) (by decide +kernel) (by decide +kernel)
  | 2, _ => exact sh_t2 (i := 116) (by decide +kernel) (by decide +kernel)
  | 3, _ => exact sh_t2 (i := 118) (by decide +kernel) (by decide +kernel)
  | 4, _ => exact sh_t2 (i := 120) (by decide +kernel) (by decide +kernel)
  | k + 5, h => omega
theorem inX3 : ∀ w ∈ u_ws RX3 TX3 3, w ∈ sh_ws := by
  intro w hw
  obtain ⟨k, hk, rfl⟩ := List.mem_map.mp hw
  have hk := List.mem_range.mp hk
  match k, hk with
  | 0, _ => exact sh_t1 (i := 197) (by decide +kernel) (by decide +kernel)
  | 1, _ => exact sh_t1 (i := 199) (by decide +kernel) (by decide +kernel)
  | 2, _ => exact sh_t1 (i := 201) (by decide +kernel) (by decide +kernel)
  | k + 3, h => omega
theorem inX4 : ∀ w ∈ u_ws RX4 TX4 5, w ∈ sh_ws := by
  intro w hw
  obtain ⟨k, hk, rfl⟩ := List.mem_map.mp hw
  have hk := List.mem_range.mp hk
  match k, hk with
  | 0, _ => exact sh_t2 (i := 62) (by decide +kernel) (by decide +kernel)
  | 1, _ => exact sh_t2 (i := 64) (by decide +kernel) (by decide +kernel)
  | 2, _ => exact sh_t2 (i := 66) (by decide +kernel) (by decide +kernel)
  | 3, _ => exact sh_t2 (i := 68) (by decide +kernel) (by decide +kernel)
  | 4, _ => exact sh_t2 (i := 70) (by decide +kernel) (by decide +kernel)
  | k + 5, h => omega
theorem inX5 : ∀ w ∈ u_ws RX5 TX5 4, w ∈ sh_ws := by
  intro w hw
  obtain ⟨k, hk, rfl⟩ := List.mem_map.mp hw
  have hk := List.mem_range.mp hk
  match k, hk with
  | 0, _ => exact sh_t1 (i := 228) (by decide +kernel) (by decide +kernel)
  | 1, _ => exact sh_t1 (i := 230) (by decide +kernel) (by decide +kernel)
  | 2, _ => exact sh_t1 (i := 232) (by decide +kernel) (by decide +kernel)
  | 3, _ => exact sh_t1 (i := 234) (by decide +kernel) (by decide +kernel)
  | k + 4, h => omega
theorem inX6 : ∀ w ∈ u_ws RX6 TX6 4, w ∈ sh_ws := by
  intro w hw
  obtain ⟨k, hk, rfl⟩ := List.mem_map.mp hw
  have hk := List.mem_range.mp hk
  match k, hk with
  | 0, _ => exact sh_t2 (i := 43) (by decide +kernel) (by decide +kernel)
  | 1, _ => exact sh_t2 (i := 45) (by decide +kernel) (by decide +kernel)
  | 2, _ => exact sh_t2 (i := 47) (by decide +kernel) (by decide +kernel)
  | 3, _ => exact sh_t2 (i := 49) (by decide +kernel) (by decide +kernel)
  | k + 4, h => omega
theorem inX7 : ∀ w ∈ u_ws RX7 TX7 13, w ∈ sh_ws := by
  intro w hw
  obtain ⟨k, hk, rfl⟩ := List.mem_map.mp hw
  have hk := List.mem_range.mp hk
  match k, hk with
  | 0, _ => exact sh_t1 (i := 156) (by decide +kernel) (by decide +kernel)
  | 1, _ => exact sh_t1 (i := 158) (by decide +kernel) (by decide +kernel)
  | 2, _ => exact sh_t1 (i := 160) (by decide +kernel) (by decide +kernel)
  | 3, _ => exact sh_t1 (i := 162) (by decide +kernel) (by decide +kernel)
  | 4, _ => exact sh_t1 (i := 164) (by decide +kernel) (by decide +kernel)
  | 5, _ => exact sh_t1 (i := 166) (by decide +kernel) (by decide +kernel)
  | 6, _ => exact sh_t1 (i := 168) (by decide +kernel) (by decide +kernel)
  | 7, _ => exact sh_t1 (i := 170) (by decide +kernel) (by decide +kernel)
  | 8, _ => exact sh_t1 (i := 172) (by decide +kernel) (by decide +kernel)
  | 9, _ => exact sh_t1 (i := 174) (by decide +kernel) (by decide +kernel)
  | 10, _ => exact sh_t1 (i := 176) (by decide +kernel) (by decide +kernel)
  | 11, _ => exact sh_t1 (i := 178) (by decide +kernel) (by decide +kernel)
  | 12, _ => exact sh_t1 (i := 180) (by decide +kernel) (by decide +kernel)
  | k + 13, h => omega
theorem inX8 : ∀ w ∈ u_ws RX8 TX8 5, w ∈ sh_ws := by
  intro w hw
  obtain ⟨k, hk, rfl⟩ := List.mem_map.mp hw
  have hk := List.mem_range.mp hk
  match k, hk with
  | 0, _ => exact sh_t2 (i := 84) (by decide +kernel) (by decide +kernel)
  | 1, _ => exact sh_t2 (i := 86) (by decide +kernel) (by decide +kernel)
  | 2, _ => exact sh_t2 (i := 88) (by decide +kernel) (by decide +kernel)
  | 3, _ => exact sh_t2 (i := 90) (by decide +kernel) (by decide +kernel)
  | 4, _ => exact sh_t2 (i := 92) (by decide +kernel) (by decide +kernel)
  | k + 5, h => omega
theorem inX9 : ∀ w ∈ u_ws RX9 TX9 2, w ∈ sh_ws := by
  intro w hw
  obtain ⟨k, hk, rfl⟩ := List.mem_map.mp hw
  have hk := List.mem_range.mp hk
  match k, hk with
  | 0, _ => exact sh_t1 (i := 47) (by decide +kernel) (by decide +kernel)
  | 1, _ => exact sh_t1 (i := 49) (by decide +kernel) (by decide +kernel)
  | k + 2, h => omega
theorem inX10 : ∀ w ∈ u_ws RX10 TX10 9, w ∈ sh_ws := by
  intro w hw
  obtain ⟨k, hk, rfl⟩ := List.mem_map.mp hw
  have hk := List.mem_range.mp hk
  match k, hk with
  | 0, _ => exact sh_t1 (i := 77) (by decide +kernel) (by decide +kernel)
  | 1, _ => exact sh_t1 (i := 79) (by decide +kernel) (by decide +kernel)
  | 2, _ => exact sh_t1 (i := 81) (by decide +kernel) (by decide +kernel)
  | 3, _ => exact sh_t1 (i := 83) (by decide +kernel) (by decide +kernel)
  | 4, _ => exact sh_t1 (i := 85) (by decide +kernel) (by decide +kernel)
  | 5, _ => exact sh_t1 (i := 87) (by decide +kernel) (by decide +kernel)
  | 6, _ => exact sh_t1 (i := 89) (by decide +kernel) (by decide +kernel)
  | 7, _ => exact sh_t1 (i := 91) (by decide +kernel) (by decide +kernel)
  | 8, _ => exact sh_t1 (i := 93) (by decide +kernel) (by decide +kernel)
  | k + 9, h => omega
theorem inX11 : ∀ w ∈ u_ws RX11 TX11 4, w ∈ sh_ws := by
  intro w hw
  obtain ⟨k, hk, rfl⟩ := List.mem_map.mp hw
  have hk := List.mem_range.mp hk
  match k, hk with
  | 0, _ => exact sh_t2 (i := 14) (by decide +kernel) (by decide +kernel)
  | 1, _ => exact sh_t2 (i := 16) (by decide +kernel) (by decide +kernel)
  | 2, _ => exact sh_t2 (i := 18) (by decide +kernel) (by decide +kernel)
  | 3, _ => exact sh_t2 (i := 20) (by decide +kernel) (by decide +kernel)
  | k + 4, h => omega
theorem inX12 : ∀ w ∈ u_ws RX12 TX12 11, w ∈ sh_ws := by
  intro w hw
  obtain ⟨k, hk, rfl⟩ := List.mem_map.mp hw
  have hk := List.mem_range.mp hk
  match k, hk with
  | 0, _ => exact sh_t2 (i := 134) (by decide +kernel) (by decide +kernel)
  | 1, _ => exact sh_t2 (i := 136) (by decide +kernel) (by decide +kernel)
  | 2, _ => exact sh_t2 (i := 138) (by decide +kernel) (by decide +kernel)
  | 3, _ => exact sh_t2 (i := 140) (by decide +kernel) (by decide +kernel)
  | 4, _ => exact sh_t2 (i := 142) (by decide +kernel) (by decide +kernel)
  | 5, _ => exact sh_t2 (i := 144) (by decide +kernel) (by decide +kernel)
  | 6, _ => exact sh_t2 (i := 146) (by decide +kernel) (by decide +kernel)
  | 7, _ => exact sh_t2 (i := 148) (by decide +kernel) (by decide +kernel)
  | 8, _ => exact sh_t2 (i := 150) (by decide +kernel) (by decide +kernel)
  | 9, _ => exact sh_t2 (i := 152) (by decide +kernel) (by decide +kernel)
  | 10, _ => exact sh_t2 (i := 154) (by decide +kernel) (by decide +kernel)
  | k + 11, h => omega
theorem inX13 : ∀ w ∈ u_ws RX13 TX13 39, w ∈ sh_ws := by
  intro w hw
  obtain ⟨k, hk, rfl⟩ := List.mem_map.mp hw
  have hk := List.mem_range.mp hk
  match k, hk with
  | 0, _ => exact sh_t6 (i := 85) (by decide +kernel) (by decide +kernel)
  | 1, _ => exact sh_t6 (i := 87) (by decide +kernel) (by decide +kernel)
  | 2, _ => exact sh_t6 (i := 89) (by decide +kernel) (by decide +kernel)
  | 3, _ => exact sh_t6 (i := 91) (by decide +kernel) (by decide +kernel)
  | 4, _ => exact sh_t6 (i := 93) (by decide +kernel) (by decide +kernel)
  | 5, _ => exact sh_t6 (i := 95) (by decide +kernel) (by decide +kernel)
  | 6, _ => exact sh_t6 (i := 97) (by decide +kernel) (by decide +kernel)
  | 7, _ => exact sh_t6 (i := 99) (by decide +kernel) (by decide +kernel)
  | 8, _ => exact sh_t6 (i := 101) (by decide +kernel) (by decide +kernel)
  | 9, _ => exact sh_t6 (i := 103) (by decide +kernel) (by decide +kernel)
  | 10, _ => exact sh_t6 (i := 105) (by decide +kernel) (by decide +kernel)
  | 11, _ => exact sh_t6 (i := 107) (by decide +kernel) (by decide +kernel)
  | 12, _ => exact sh_t6 (i := 109) (by decide +kernel) (by decide +kernel)
  | 13, _ => exact sh_t6 (i := 111) (by decide +kernel) (by decide +kernel)
  | 14, _ => exact sh_t6 (i := 113) (by decide +kernel) (by decide +kernel)
  | 15, _ => exact sh_t6 (i := 115) (by decide +kernel) (by decide +kernel)
  | 16, _ => exact sh_t6 (i := 117) (by decide +kernel) (by decide +kernel)
  | 17, _ => exact sh_t6 (i := 119) (by decide +kernel) (by decide +kernel)
  | 18, _ => exact sh_t6 (i := 121) (by decide +kernel) (by decide +kernel)
  | 19, _ => exact sh_t6 (i := 123) (by decide +kernel) (by decide +kernel)
  | 20, _ => exact sh_t6 (i := 125) (by decide +kernel) (by decide +kernel)
  | 21, _ => exact sh_t6 (i := 127) (by decide +kernel) (by decide +kernel)
  | 22, _ => exact sh_t6 (i := 129) (by decide +kernel) (by decide +kernel)
  | 23, _ => exact sh_t6 (i := 131) (by decide +kernel) (by decide +kernel)
  | 24, _ => exact sh_t6 (i := 133) (by decide +kernel) (by decide +kernel)
  | 25, _ => exact sh_t6 (i := 135) (by decide +kernel) (by decide +kernel)
  | 26, _ => exact sh_t6 (i := 137) (by decide +kernel) (by decide +kernel)
  | 27, _ => exact sh_t6 (i := 139) (by decide +kernel) (by decide +kernel)
  | 28, _ => exact sh_t6 (i := 141) (by decide +kernel) (by decide +kernel)
  | 29, _ => exact sh_t6 (i := 143) (by decide +kernel) (by decide +kernel)
  | 30, _ => exact sh_t6 (i := 145) (by decide +kernel) (by decide +kernel)
  | 31, _ => exact sh_t6 (i := 147) (by decide +kernel) (by decide +kernel)
  | 32, _ => exact sh_t6 (i := 149) (by decide +kernel) (by decide +kernel)
  | 33, _ => exact sh_t6 (i := 151) (by decide +kernel) (by decide +kernel)
  | 34, _ => exact sh_t6 (i := 153) (by decide +kernel) (by decide +kernel)
  | 35, _ => exact sh_t6 (i := 155) (by decide +kernel) (by decide +kernel)
  | 36, _ => exact sh_t6 (i := 157) (by decide +kernel) (by decide +kernel)
  | 37, _ => exact sh_t6 (i := 159) (by decide +kernel) (by decide +kernel)
  | 38, _ => exact sh_t6 (i := 161) (by decide +kernel) (by decide +kernel)
  | k + 39, h => omega
theorem fl_X9_9 : sh_FL RX9 9 7 0 := ⟨RX9, TX9, 2, rfl, by decide, inX9, sh_t1 (i := 43) (by decide +kernel) (by decide +kernel)⟩
theorem fl_X10_119 : sh_FL RX10 119 7 0 := ⟨RX9, TX9, 2, rfl, by decide, inX9, sh_t1 (i := 44) (by decide +kernel) (by decide +kernel)⟩
theorem fl_X9_15 : sh_FL RX9 15 7 1 := ⟨RX9, TX9, 2, rfl, by decide, inX9, sh_t1 (i := 45) (by decide +kernel) (by decide +kernel)⟩
theorem fl_X12_78 : sh_FL RX12 78 7 1 := ⟨RX9, TX9, 2, rfl, by decide, inX9, sh_t1 (i := 46) (by decide +kernel) (by decide +kernel)⟩
theorem fl_X10_43 : sh_FL RX10 43 8 0 := ⟨RX10, TX10, 9, rfl, by decide, inX10, sh_t1 (i := 61) (by decide +kernel) (by decide +kernel)⟩
theorem fl_X10_9 : sh_FL RX10 9 8 1 := ⟨RX10, TX10, 9, rfl, by decide, inX10, sh_t1 (i := 62) (by decide +kernel) (by decide +kernel)⟩
theorem fl_X10_15 : sh_FL RX10 15 8 2 := ⟨RX10, TX10, 9, rfl, by decide, inX10, sh_t1 (i := 63) (by decide +kernel) (by decide +kernel)⟩
theorem fl_X12_413 : sh_FL RX12 413 8 2 := ⟨RX10, TX10, 9, rfl, by decide, inX10, sh_t1 (i := 64) (by decide +kernel) (by decide +kernel)⟩
theorem fl_X10_18 : sh_FL RX10 18 8 3 := ⟨RX10, TX10, 9, rfl, by decide, inX10, sh_t1 (i := 65) (by decide +kernel) (by decide +kernel)⟩
theorem fl_X12_108 : sh_FL RX12 108 8 3 := ⟨RX10, TX10, 9, rfl, by decide, inX10, sh_t1 (i := 66) (by decide +kernel) (by decide +kernel)⟩
theorem fl_X10_21 : sh_FL RX10 21 8 4 := ⟨RX10, TX10, 9, rfl, by decide, inX10, sh_t1 (i := 67) (by decide +kernel) (by decide +kernel)⟩
theorem fl_X12_397 : sh_FL RX12 397 8 4 := ⟨RX10, TX10, 9, rfl, by decide, inX10, sh_t1 (i := 68) (by decide +kernel) (by decide +kernel)⟩
theorem fl_X10_30 : sh_FL RX10 30 8 5 := ⟨RX10, TX10, 9, rfl, by decide, inX10, sh_t1 (i := 69) (by decide +kernel) (by decide +kernel)⟩
theorem fl_X12_384 : sh_FL RX12 384 8 5 := ⟨RX10, TX10, 9, rfl, by decide, inX10, sh_t1 (i := 70) (by decide +kernel) (by decide +kernel)⟩
theorem fl_X10_33 : sh_FL RX10 33 8 6 := ⟨RX10, TX10, 9, rfl, by decide, inX10, sh_t1 (i := 71) (by decide +kernel) (by decide +kernel)⟩
theorem fl_X12_387 : sh_FL RX12 387 8 6 := ⟨RX10, TX10, 9, rfl, by decide, inX10, sh_t1 (i := 72) (by decide +kernel) (by decide +kernel)⟩
theorem fl_X10_37 : sh_FL RX10 37 8 7 := ⟨RX10, TX10, 9, rfl, by decide, inX10, sh_t1 (i := 73) (by decide +kernel) (by decide +kernel)⟩
theorem fl_X12_391 : sh_FL RX12 391 8 7 := ⟨RX10, TX10, 9, rfl, by decide, inX10, sh_t1 (i := 74) (by decide +kernel) (by decide +kernel)⟩
theorem fl_X10_40 : sh_FL RX10 40 8 8 := ⟨RX10, TX10, 9, rfl, by decide, inX10, sh_t1 (i := 75) (by decide +kernel) (by decide +kernel)⟩
theorem fl_X12_394 : sh_FL RX12 394 8 8 := ⟨RX10, TX10, 9, rfl, by decide, inX10, sh_t1 (i := 76) (by decide +kernel) (by decide +kernel)⟩
theorem fl_X7_9 : sh_FL RX7 9 5 0 := ⟨RX7, TX7, 13, rfl, by decide, inX7, sh_t1 (i := 102) (by decide +kernel) (by decide +kernel)⟩
theorem fl_X8_115 : sh_FL RX8 115 5 0 := ⟨RX7, TX7, 13, rfl, by decide, inX7, sh_t1 (i := 103) (by decide +kernel) (by decide +kernel)⟩
theorem fl_X4_177 : sh_FL RX4 177 5 0 := ⟨RX7, TX7, 13, rfl, by decide, inX7, sh_t1 (i := 104) (by decide +kernel) (by decide +kernel)⟩
theorem fl_X12_349 : sh_FL RX12 349 5 0 := ⟨RX7, TX7, 13, rfl, by decide, inX7, sh_t1 (i := 105) (by decide +kernel) (by decide +kernel)⟩
theorem fl_X7_15 : sh_FL RX7 15 5 1 := ⟨RX7, TX7, 13, rfl, by decide, inX7, sh_t1 (i := 106) (by decide +kernel) (by decide +kernel)⟩
theorem fl_X8_64 : sh_FL RX8 64 5 1 := ⟨RX7, TX7, 13, rfl, by decide, inX7, sh_t1 (i := 107) (by decide +kernel) (by decide +kernel)⟩
theorem fl_X4_183 : sh_FL RX4 183 5 1 := ⟨RX7, TX7, 13, rfl, by decide, inX7, sh_t1 (i := 108) (by decide +kernel) (by decide +kernel)⟩
theorem fl_X12_352 : sh_FL RX12 352 5 1 := ⟨RX7, TX7, 13, rfl, by decide, inX7, sh_t1 (i := 109) (by decide +kernel) (by decide +kernel)⟩
theorem fl_X7_18 : sh_FL RX7 18 5 2 := ⟨RX7, TX7, 13, rfl, by decide, inX7, sh_t1 (i := 110) (by decide +kernel) (by decide +kernel)⟩
theorem fl_X4_85 : sh_FL RX4 85 5 2 := ⟨RX7, TX7, 13, rfl, by decide, inX7, sh_t1 (i := 111) (by decide +kernel) (by decide +kernel)⟩
theorem fl_X8_118 : sh_FL RX8 118 5 2 := ⟨RX7, TX7, 13, rfl, by decide, inX7, sh_t1 (i := 112) (by decide +kernel) (by decide +kernel)⟩
theorem fl_X12_355 : sh_FL RX12 355 5 2 := ⟨RX7, TX7, 13, rfl, by decide, inX7, sh_t1 (i := 113) (by decide +kernel) (by decide +kernel)⟩
theorem fl_X7_22 : sh_FL RX7 22 5 3 := ⟨RX7, TX7, 13, rfl, by decide, inX7, sh_t1 (i := 114) (by decide +kernel) (by decide +kernel)⟩
theorem fl_X11_25 : sh_FL RX11 25 5 3 := ⟨RX7, TX7, 13, rfl, by decide, inX7, sh_t1 (i := 115) (by decide +kernel) (by decide +kernel)⟩
theorem fl_X5_25 : sh_FL RX5 25 5 3 := ⟨RX7, TX7, 13, rfl, by decide, inX7, sh_t1 (i := 116) (by decide +kernel) (by decide +kernel)⟩
theorem fl_X4_140 : sh_FL RX4 140 5 3 := ⟨RX7, TX7, 13, rfl, by decide, inX7, sh_t1 (i := 117) (by decide +kernel) (by decide +kernel)⟩
theorem fl_X12_343 : sh_FL RX12 343 5 3 := ⟨RX7, TX7, 13, rfl, by decide, inX7, sh_t1 (i := 118) (by decide +kernel) (by decide +kernel)⟩
theorem fl_X7_25 : sh_FL RX7 25 5 4 := ⟨RX7, TX7, 13, rfl, by decide, inX7, sh_t1 (i := 119) (by decide +kernel) (by decide +kernel)⟩
theorem fl_X4_78 : sh_FL RX4 78 5 4 := ⟨RX7, TX7, 13, rfl, by decide, inX7, sh_t1 (i := 120) (by decide +kernel) (by decide +kernel)⟩
theorem fl_X12_221 : sh_FL RX12 221 5 4 := ⟨RX7, TX7, 13, rfl, by decide, inX7, sh_t1 (i := 121) (by decide +kernel) (by decide +kernel)⟩
theorem fl_X7_29 : sh_FL RX7 29 5 5 := ⟨RX7, TX7, 13, rfl, by decide, inX7, sh_t1 (i := 122) (by decide +kernel) (by decide +kernel)⟩
theorem fl_X5_34 : sh_FL RX5 34 5 5 := ⟨RX7, TX7, 13, rfl, by decide, inX7, sh_t1 (i := 123) (by decide +kernel) (by decide +kernel)⟩
theorem fl_X11_63 : sh_FL RX11 63 5 5 := ⟨RX7, TX7, 13, rfl, by decide, inX7, sh_t1 (i := 124) (by decide +kernel) (by decide +kernel)⟩
theorem fl_X4_143 : sh_FL RX4 143 5 5 := ⟨RX7, TX7, 13, rfl, by decide, inX7, sh_t1 (i := 125) (by decide +kernel) (by decide +kernel)⟩
theorem fl_X8_168 : sh_FL RX8 168 5 5 := ⟨RX7, TX7, 13, rfl, by decide, inX7, sh_t1 (i := 126) (by decide +kernel) (by decide +kernel)⟩
theorem fl_X12_225 : sh_FL RX12 225 5 5 := ⟨RX7, TX7, 13, rfl, by decide, inX7, sh_t1 (i := 127) (by decide +kernel) (by decide +kernel)⟩
theorem fl_X7_32 : sh_FL RX7 32 5 6 := ⟨RX7, TX7, 13, rfl, by decide, inX7, sh_t1 (i := 128) (by decide +kernel) (by decide +kernel)⟩
theorem fl_X4_160 : sh_FL RX4 160 5 6 := ⟨RX7, TX7, 13, rfl, by decide, inX7, sh_t1 (i := 129) (by decide +kernel) (by decide +kernel)⟩
theorem fl_X12_231 : sh_FL RX12 231 5 6 := ⟨RX7, TX7, 13, rfl, by decide, inX7, sh_t1 (i := 130) (by decide +kernel) (by decide +kernel)⟩
theorem fl_X7_35 : sh_FL RX7 35 5 7 := ⟨RX7, TX7, 13, rfl, by decide, inX7, sh_t1 (i := 131) (by decide +kernel) (by decide +kernel)⟩
theorem fl_X4_81 : sh_FL RX4 81 5 7 := ⟨RX7, TX7, 13, rfl, by decide, inX7, sh_t1 (i := 132) (by decide +kernel) (by decide +kernel)⟩
theorem fl_X8_111 : sh_FL RX8 111 5 7 := ⟨RX7, TX7, 13, rfl, by decide, inX7, sh_t1 (i := 133) (by decide +kernel) (by decide +kernel)⟩
theorem fl_X12_239 : sh_FL RX12 239 5 7 := ⟨RX7, TX7, 13, rfl, by decide, inX7, sh_t1 (i := 134) (by decide +kernel) (by decide +kernel)⟩
theorem fl_X7_39 : sh_FL RX7 39 5 8 := ⟨RX7, TX7, 13, rfl, by decide, inX7, sh_t1 (i := 135) (by decide +kernel) (by decide +kernel)⟩
theorem fl_X4_96 : sh_FL RX4 96 5 8 := ⟨RX7, TX7, 13, rfl, by decide, inX7, sh_t1 (i := 136) (by decide +kernel) (by decide +kernel)⟩
theorem fl_X12_243 : sh_FL RX12 243 5 8 := ⟨RX7, TX7, 13, rfl, by decide, inX7, sh_t1 (i := 137) (by decide +kernel) (by decide +kernel)⟩
theorem fl_X7_42 : sh_FL RX7 42 5 9 := ⟨RX7, TX7, 13, rfl, by decide, inX7, sh_t1 (i := 138) (by decide +kernel) (by decide +kernel)⟩
theorem fl_X8_155 : sh_FL RX8 155 5 9 := ⟨RX7, TX7, 13, rfl, by decide, inX7, sh_t1 (i := 139) (by decide +kernel) (by decide +kernel)⟩
theorem fl_X12_246 : sh_FL RX12 246 5 9 := ⟨RX7, TX7, 13, rfl, by decide, inX7, sh_t1 (i := 140) (by decide +kernel) (by decide +kernel)⟩
theorem fl_X4_205 : sh_FL RX4 205 5 9 := ⟨RX7, TX7, 13, rfl, by decide, inX7, sh_t1 (i := 141) (by decide +kernel) (by decide +kernel)⟩
theorem fl_X7_45 : sh_FL RX7 45 5 10 := ⟨RX7, TX7, 13, rfl, by decide, inX7, sh_t1 (i := 142) (by decide +kernel) (by decide +kernel)⟩
theorem fl_X5_40 : sh_FL RX5 40 5 10 := ⟨RX7, TX7, 13, rfl, by decide, inX7, sh_t1 (i := 143) (by decide +kernel) (by decide +kernel)⟩
theorem fl_X11_66 : sh_FL RX11 66 5 10 := ⟨RX7, TX7, 13, rfl, by decide, inX7, sh_t1 (i := 144) (by decide +kernel) (by decide +kernel)⟩
theorem fl_X12_257 : sh_FL RX12 257 5 10 := ⟨RX7, TX7, 13, rfl, by decide, inX7, sh_t1 (i := 145) (by decide +kernel) (by decide +kernel)⟩
theorem fl_X4_233 : sh_FL RX4 233 5 10 := ⟨RX7, TX7, 13, rfl, by decide, inX7, sh_t1 (i := 146) (by decide +kernel) (by decide +kernel)⟩
theorem fl_X7_48 : sh_FL RX7 48 5 11 := ⟨RX7, TX7, 13, rfl, by decide, inX7, sh_t1 (i := 147) (by decide +kernel) (by decide +kernel)⟩
theorem fl_X5_41 : sh_FL RX5 41 5 11 := ⟨RX7, TX7, 13, rfl, by decide, inX7, sh_t1 (i := 148) (by decide +kernel) (by decide +kernel)⟩
theorem fl_X11_67 : sh_FL RX11 67 5 11 := ⟨RX7, TX7, 13, rfl, by decide, inX7, sh_t1 (i := 149) (by decide +kernel) (by decide +kernel)⟩
theorem fl_X12_260 : sh_FL RX12 260 5 11 := ⟨RX7, TX7, 13, rfl, by decide, inX7, sh_t1 (i := 150) (by decide +kernel) (by decide +kernel)⟩
theorem fl_X4_236 : sh_FL RX4 236 5 11 := ⟨RX7, TX7, 13, rfl, by decide, inX7, sh_t1 (i := 151) (by decide +kernel) (by decide +kernel)⟩
theorem fl_X7_51 : sh_FL RX7 51 5 12 := ⟨RX7, TX7, 13, rfl, by decide, inX7, sh_t1 (i := 152) (by decide +kernel) (by decide +kernel)⟩
theorem fl_X11_40 : sh_FL RX11 40 5 12 := ⟨RX7, TX7, 13, rfl, by decide, inX7, sh_t1 (i := 153) (by decide +kernel) (by decide +kernel)⟩
theorem fl_X5_37 : sh_FL RX5 37 5 12 := ⟨RX7, TX7, 13, rfl, by decide, inX7, sh_t1 (i := 154) (by decide +kernel) (by decide +kernel)⟩
theorem fl_X12_263 : sh_FL RX12 263 5 12 := ⟨RX7, TX7, 13, rfl, by decide, inX7, sh_t1 (i := 155) (by decide +kernel) (by decide +kernel)⟩
theorem fl_X3_11 : sh_FL RX3 11 1 0 := ⟨RX3, TX3, 3, rfl, by decide, inX3, sh_t1 (i := 193) (by decide +kernel) (by decide +kernel)⟩
theorem fl_X3_17 : sh_FL RX3 17 1 1 := ⟨RX3, TX3, 3, rfl, by decide, inX3, sh_t1 (i := 194) (by decide +kernel) (by decide +kernel)⟩
theorem fl_X12_186 : sh_FL RX12 186 1 1 := ⟨RX3, TX3, 3, rfl, by decide, inX3, sh_t1 (i := 195) (by decide +kernel) (by decide +kernel)⟩
theorem fl_X3_21 : sh_FL RX3 21 1 2 := ⟨RX3, TX3, 3, rfl, by decide, inX3, sh_t1 (i := 196) (by decide +kernel) (by decide +kernel)⟩
theorem fl_X5_9 : sh_FL RX5 9 3 0 := ⟨RX5, TX5, 4, rfl, by decide, inX5, sh_t1 (i := 216) (by decide +kernel) (by decide +kernel)⟩
theorem fl_X11_54 : sh_FL RX11 54 3 0 := ⟨RX5, TX5, 4, rfl, by decide, inX5, sh_t1 (i := 217) (by decide +kernel) (by decide +kernel)⟩
theorem fl_X8_89 : sh_FL RX8 89 3 0 := ⟨RX5, TX5, 4, rfl, by decide, inX5, sh_t1 (i := 218) (by decide +kernel) (by decide +kernel)⟩
theorem fl_X12_276 : sh_FL RX12 276 3 0 := ⟨RX5, TX5, 4, rfl, by decide, inX5, sh_t1 (i := 219) (by decide +kernel) (by decide +kernel)⟩
theorem fl_X5_15 : sh_FL RX5 15 3 1 := ⟨RX5, TX5, 4, rfl, by decide, inX5, sh_t1 (i := 220) (by decide +kernel) (by decide +kernel)⟩
theorem fl_X11_57 : sh_FL RX11 57 3 1 := ⟨RX5, TX5, 4, rfl, by decide, inX5, sh_t1 (i := 221) (by decide +kernel) (by decide +kernel)⟩
theorem fl_X5_18 : sh_FL RX5 18 3 2 := ⟨RX5, TX5, 4, rfl, by decide, inX5, sh_t1 (i := 222) (by decide +kernel) (by decide +kernel)⟩
theorem fl_X11_60 : sh_FL RX11 60 3 2 := ⟨RX5, TX5, 4, rfl, by decide, inX5, sh_t1 (i := 223) (by decide +kernel) (by decide +kernel)⟩
theorem fl_X5_21 : sh_FL RX5 21 3 3 := ⟨RX5, TX5, 4, rfl, by decide, inX5, sh_t1 (i := 224) (by decide +kernel) (by decide +kernel)⟩
theorem fl_X11_49 : sh_FL RX11 49 3 3 := ⟨RX5, TX5, 4, rfl, by decide, inX5, sh_t1 (i := 225) (by decide +kernel) (by decide +kernel)⟩
theorem fl_X8_161 : sh_FL RX8 161 3 3 := ⟨RX5, TX5, 4, rfl, by decide, inX5, sh_t1 (i := 226) (by decide +kernel) (by decide +kernel)⟩
theorem fl_X12_275 : sh_FL RX12 275 3 3 := ⟨RX5, TX5, 4, rfl, by decide, inX5, sh_t1 (i := 227) (by decide +kernel) (by decide +kernel)⟩
theorem fl_X11_9 : sh_FL RX11 9 9 0 := ⟨RX11, TX11, 4, rfl, by decide, inX11, sh_t2 (i := 3) (by decide +kernel) (by decide +kernel)⟩
theorem fl_X4_70 : sh_FL RX4 70 9 0 := ⟨RX11, TX11, 4, rfl, by decide, inX11, sh_t2 (i := 4) (by decide +kernel) (by decide +kernel)⟩
theorem fl_X8_142 : sh_FL RX8 142 9 0 := ⟨RX11, TX11, 4, rfl, by decide, inX11, sh_t2 (i := 5) (by decide +kernel) (by decide +kernel)⟩
theorem fl_X11_15 : sh_FL RX11 15 9 1 := ⟨RX11, TX11, 4, rfl, by decide, inX11, sh_t2 (i := 6) (by decide +kernel) (by decide +kernel)⟩
theorem fl_X4_223 : sh_FL RX4 223 9 1 := ⟨RX11, TX11, 4, rfl, by decide, inX11, sh_t2 (i := 7) (by decide +kernel) (by decide +kernel)⟩
theorem fl_X11_18 : sh_FL RX11 18 9 2 := ⟨RX11, TX11, 4, rfl, by decide, inX11, sh_t2 (i := 8) (by decide +kernel) (by decide +kernel)⟩
theorem fl_X4_64 : sh_FL RX4 64 9 2 := ⟨RX11, TX11, 4, rfl, by decide, inX11, sh_t2 (i := 9) (by decide +kernel) (by decide +kernel)⟩
theorem fl_X8_134 : sh_FL RX8 134 9 2 := ⟨RX11, TX11, 4, rfl, by decide, inX11, sh_t2 (i := 10) (by decide +kernel) (by decide +kernel)⟩
theorem fl_X11_22 : sh_FL RX11 22 9 3 := ⟨RX11, TX11, 4, rfl, by decide, inX11, sh_t2 (i := 11) (by decide +kernel) (by decide +kernel)⟩
theorem fl_X4_67 : sh_FL RX4 67 9 3 := ⟨RX11, TX11, 4, rfl, by decide, inX11, sh_t2 (i := 12) (by decide +kernel) (by decide +kernel)⟩
theorem fl_X8_139 : sh_FL RX8 139 9 3 := ⟨RX11, TX11, 4, rfl, by decide, inX11, sh_t2 (i := 13) (by decide +kernel) (by decide +kernel)⟩
theorem fl_X6_9 : sh_FL RX6 9 4 0 := ⟨RX6, TX6, 4, rfl, by decide, inX6, sh_t2 (i := 29) (by decide +kernel) (by decide +kernel)⟩
theorem fl_X4_136 : sh_FL RX4 136 4 0 := ⟨RX6, TX6, 4, rfl, by decide, inX6, sh_t2 (i := 30) (by decide +kernel) (by decide +kernel)⟩
theorem fl_X7_69 : sh_FL RX7 69 4 0 := ⟨RX6, TX6, 4, rfl, by decide, inX6, sh_t2 (i := 31) (by decide +kernel) (by decide +kernel)⟩
theorem fl_X6_15 : sh_FL RX6 15 4 1 := ⟨RX6, TX6, 4, rfl, by decide, inX6, sh_t2 (i := 32) (by decide +kernel) (by decide +kernel)⟩
theorem fl_X2_38 : sh_FL RX2 38 4 1 := ⟨RX6, TX6, 4, rfl, by decide, inX6, sh_t2 (i := 33) (by decide +kernel) (by decide +kernel)⟩
theorem fl_X7_70 : sh_FL RX7 70 4 1 := ⟨RX6, TX6, 4, rfl, by decide, inX6, sh_t2 (i := 34) (by decide +kernel) (by decide +kernel)⟩
theorem fl_X6_19 : sh_FL RX6 19 4 2 := ⟨RX6, TX6, 4, rfl, by decide, inX6, sh_t2 (i := 35) (by decide +kernel) (by decide +kernel)⟩
theorem fl_X7_71 : sh_FL RX7 71 4 2 := ⟨RX6, TX6, 4, rfl, by decide, inX6, sh_t2 (i := 36) (by decide +kernel) (by decide +kernel)⟩
theorem fl_X4_208 : sh_FL RX4 208 4 2 := ⟨RX6, TX6, 4, rfl, by decide, inX6, sh_t2 (i := 37) (by decide +kernel) (by decide +kernel)⟩
theorem fl_X6_22 : sh_FL RX6 22 4 3 := ⟨RX6, TX6, 4, rfl, by decide, inX6, sh_t2 (i := 38) (by decide +kernel) (by decide +kernel)⟩
theorem fl_X2_29 : sh_FL RX2 29 4 3 := ⟨RX6, TX6, 4, rfl, by decide, inX6, sh_t2 (i := 39) (by decide +kernel) (by decide +kernel)⟩
theorem fl_X4_129 : sh_FL RX4 129 4 3 := ⟨RX6, TX6, 4, rfl, by decide, inX6, sh_t2 (i := 40) (by decide +kernel) (by decide +kernel)⟩
theorem fl_X7_64 : sh_FL RX7 64 4 3 := ⟨RX6, TX6, 4, rfl, by decide, inX6, sh_t2 (i := 41) (by decide +kernel) (by decide +kernel)⟩
theorem fl_X12_326 : sh_FL RX12 326 4 3 := ⟨RX6, TX6, 4, rfl, by decide, inX6, sh_t2 (i := 42) (by decide +kernel) (by decide +kernel)⟩
theorem fl_X4_36 : sh_FL RX4 36 2 0 := ⟨RX4, TX4, 5, rfl, by decide, inX4, sh_t2 (i := 52) (by decide +kernel) (by decide +kernel)⟩
theorem fl_X4_12 : sh_FL RX4 12 2 1 := ⟨RX4, TX4, 5, rfl, by decide, inX4, sh_t2 (i := 53) (by decide +kernel) (by decide +kernel)⟩
theorem fl_X8_54 : sh_FL RX8 54 2 1 := ⟨RX4, TX4, 5, rfl, by decide, inX4, sh_t2 (i := 54) (by decide +kernel) (by decide +kernel)⟩
theorem fl_X12_266 : sh_FL RX12 266 2 1 := ⟨RX4, TX4, 5, rfl, by decide, inX4, sh_t2 (i := 55) (by decide +kernel) (by decide +kernel)⟩
theorem fl_X4_21 : sh_FL RX4 21 2 2 := ⟨RX4, TX4, 5, rfl, by decide, inX4, sh_t2 (i := 56) (by decide +kernel) (by decide +kernel)⟩
theorem fl_X8_130 : sh_FL RX8 130 2 2 := ⟨RX4, TX4, 5, rfl, by decide, inX4, sh_t2 (i := 57) (by decide +kernel) (by decide +kernel)⟩
theorem fl_X12_211 : sh_FL RX12 211 2 2 := ⟨RX4, TX4, 5, rfl, by decide, inX4, sh_t2 (i := 58) (by decide +kernel) (by decide +kernel)⟩
theorem fl_X4_28 : sh_FL RX4 28 2 3 := ⟨RX4, TX4, 5, rfl, by decide, inX4, sh_t2 (i := 59) (by decide +kernel) (by decide +kernel)⟩
theorem fl_X12_318 : sh_FL RX12 318 2 3 := ⟨RX4, TX4, 5, rfl, by decide, inX4, sh_t2 (i := 60) (by decide +kernel) (by decide +kernel)⟩
theorem fl_X4_32 : sh_FL RX4 32 2 4 := ⟨RX4, TX4, 5, rfl, by decide, inX4, sh_t2 (i := 61) (by decide +kernel) (by decide +kernel)⟩
theorem fl_X8_22 : sh_FL RX8 22 6 0 := ⟨RX8, TX8, 5, rfl, by decide, inX8, sh_t2 (i := 79) (by decide +kernel) (by decide +kernel)⟩
theorem fl_X8_26 : sh_FL RX8 26 6 1 := ⟨RX8, TX8, 5, rfl, by decide, inX8, sh_t2 (i := 80) (by decide +kernel) (by decide +kernel)⟩
theorem fl_X8_9 : sh_FL RX8 9 6 2 := ⟨RX8, TX8, 5, rfl, by decide, inX8, sh_t2 (i := 81) (by decide +kernel) (by decide +kernel)⟩
theorem fl_X8_15 : sh_FL RX8 15 6 3 := ⟨RX8, TX8, 5, rfl, by decide, inX8, sh_t2 (i := 82) (by decide +kernel) (by decide +kernel)⟩
theorem fl_X8_18 : sh_FL RX8 18 6 4 := ⟨RX8, TX8, 5, rfl, by decide, inX8, sh_t2 (i := 83) (by decide +kernel) (by decide +kernel)⟩
theorem fl_X2_9 : sh_FL RX2 9 0 0 := ⟨RX2, TX2, 5, rfl, by decide, inX2, sh_t2 (i := 102) (by decide +kernel) (by decide +kernel)⟩
theorem fl_X12_333 : sh_FL RX12 333 0 0 := ⟨RX2, TX2, 5, rfl, by decide, inX2, sh_t2 (i := 103) (by decide +kernel) (by decide +kernel)⟩
theorem fl_X2_15 : sh_FL RX2 15 0 1 := ⟨RX2, TX2, 5, rfl, by decide, inX2, sh_t2 (i := 104) (by decide +kernel) (by decide +kernel)⟩
theorem fl_X12_301 : sh_FL RX12 301 0 1 := ⟨RX2, TX2, 5, rfl, by decide, inX2, sh_t2 (i := 105) (by decide +kernel) (by decide +kernel)⟩
theorem fl_X2_19 : sh_FL RX2 19 0 2 := ⟨RX2, TX2, 5, rfl, by decide, inX2, sh_t2 (i := 106) (by decide +kernel) (by decide +kernel)⟩
theorem fl_X12_309 : sh_FL RX12 309 0 2 := ⟨RX2, TX2, 5, rfl, by decide, inX2, sh_t2 (i := 107) (by decide +kernel) (by decide +kernel)⟩
theorem fl_X2_23 : sh_FL RX2 23 0 3 := ⟨RX2, TX2, 5, rfl, by decide, inX2, sh_t2 (i := 108) (by decide +kernel) (by decide +kernel)⟩
theorem fl_X12_329 : sh_FL RX12 329 0 3 := ⟨RX2, TX2, 5, rfl, by decide, inX2, sh_t2 (i := 109) (by decide +kernel) (by decide +kernel)⟩
theorem fl_X2_26 : sh_FL RX2 26 0 4 := ⟨RX2, TX2, 5, rfl, by decide, inX2, sh_t2 (i := 110) (by decide +kernel) (by decide +kernel)⟩
theorem fl_X12_332 : sh_FL RX12 332 0 4 := ⟨RX2, TX2, 5, rfl, by decide, inX2, sh_t2 (i := 111) (by decide +kernel) (by decide +kernel)⟩
theorem fl_X12_12 : sh_FL RX12 12 10 0 := ⟨RX12, TX12, 11, rfl, by decide, inX12, sh_t2 (i := 123) (by decide +kernel) (by decide +kernel)⟩
theorem fl_X12_21 : sh_FL RX12 21 10 1 := ⟨RX12, TX12, 11, rfl, by decide, inX12, sh_t2 (i := 124) (by decide +kernel) (by decide +kernel)⟩
theorem fl_X12_28 : sh_FL RX12 28 10 2 := ⟨RX12, TX12, 11, rfl, by decide, inX12, sh_t2 (i := 125) (by decide +kernel) (by decide +kernel)⟩
theorem fl_X12_32 : sh_FL RX12 32 10 3 := ⟨RX12, TX12, 11, rfl, by decide, inX12, sh_t2 (i := 126) (by decide +kernel) (by decide +kernel)⟩
theorem fl_X12_35 : sh_FL RX12 35 10 4 := ⟨RX12, TX12, 11, rfl, by decide, inX12, sh_t2 (i := 127) (by decide +kernel) (by decide +kernel)⟩
theorem fl_X12_41 : sh_FL RX12 41 10 5 := ⟨RX12, TX12, 11, rfl, by decide, inX12, sh_t2 (i := 128) (by decide +kernel) (by decide +kernel)⟩
theorem fl_X12_50 : sh_FL RX12 50 10 6 := ⟨RX12, TX12, 11, rfl, by decide, inX12, sh_t2 (i := 129) (by decide +kernel) (by decide +kernel)⟩
theorem fl_X12_59 : sh_FL RX12 59 10 7 := ⟨RX12, TX12, 11, rfl, by decide, inX12, sh_t2 (i := 130) (by decide +kernel) (by decide +kernel)⟩
theorem fl_X12_65 : sh_FL RX12 65 10 8 := ⟨RX12, TX12, 11, rfl, by decide, inX12, sh_t2 (i := 131) (by decide +kernel) (by decide +kernel)⟩
theorem fl_X12_69 : sh_FL RX12 69 10 9 := ⟨RX12, TX12, 11, rfl, by decide, inX12, sh_t2 (i := 132) (by decide +kernel) (by decide +kernel)⟩
theorem fl_X12_73 : sh_FL RX12 73 10 10 := ⟨RX12, TX12, 11, rfl, by decide, inX12, sh_t2 (i := 133) (by decide +kernel) (by decide +kernel)⟩
theorem fl_X13_79 : sh_FL RX13 79 11 0 := ⟨RX13, TX13, 39, rfl, by decide, inX13, sh_t6 (i := 46) (by decide +kernel) (by decide +kernel)⟩
theorem fl_X13_7 : sh_FL RX13 7 11 1 := ⟨RX13, TX13, 39, rfl, by decide, inX13, sh_t6 (i := 47) (by decide +kernel) (by decide +kernel)⟩
theorem fl_X13_13 : sh_FL RX13 13 11 2 := ⟨RX13, TX13, 39, rfl, by decide, inX13, sh_t6 (i := 48) (by decide +kernel) (by decide +kernel)⟩
theorem fl_X13_17 : sh_FL RX13 17 11 3 := ⟨RX13, TX13, 39, rfl, by decide, inX13, sh_t6 (i := 49) (by decide +kernel) (by decide +kernel)⟩
theorem fl_X13_20 : sh_FL RX13 20 11 4 := ⟨RX13, TX13, 39, rfl, by decide, inX13, sh_t6 (i := 50) (by decide +kernel) (by decide +kernel)⟩
theorem fl_X13_251 : sh_FL RX13 251 11 5 := ⟨RX13, TX13, 39, rfl, by decide, inX13, sh_t6 (i := 51) (by decide +kernel) (by decide +kernel)⟩
theorem fl_X13_23 : sh_FL RX13 23 11 6 := ⟨RX13, TX13, 39, rfl, by decide, inX13, sh_t6 (i := 52) (by decide +kernel) (by decide +kernel)⟩
theorem fl_X13_26 : sh_FL RX13 26 11 7 := ⟨RX13, TX13, 39, rfl, by decide, inX13, sh_t6 (i := 53) (by decide +kernel) (by decide +kernel)⟩
theorem fl_X13_29 : sh_FL RX13 29 11 8 := ⟨RX13, TX13, 39, rfl, by decide, inX13, sh_t6 (i := 54) (by decide +kernel) (by decide +kernel)⟩
theorem fl_X13_32 : sh_FL RX13 32 11 9 := ⟨RX13, TX13, 39, rfl, by decide, inX13, sh_t6 (i := 55) (by decide +kernel) (by decide +kernel)⟩
theorem fl_X13_424 : sh_FL RX13 424 11 10 := ⟨RX13, TX13, 39, rfl, by decide, inX13, sh_t6 (i := 56) (by decide +kernel) (by decide +kernel)⟩
theorem fl_X13_35 : sh_FL RX13 35 11 11 := ⟨RX13, TX13, 39, rfl, by decide, inX13, sh_t6 (i := 57) (by decide +kernel) (by decide +kernel)⟩
theorem fl_X13_39 : sh_FL RX13 39 11 12 := ⟨RX13, TX13, 39, rfl, by decide, inX13, sh_t6 (i := 58) (by decide +kernel) (by decide +kernel)⟩
theorem fl_X13_42 : sh_FL RX13 42 11 13 := ⟨RX13, TX13, 39, rfl, by decide, inX13, sh_t6 (i := 59) (by decide +kernel) (by decide +kernel)⟩
theorem fl_X13_45 : sh_FL RX13 45 11 14 := ⟨RX13, TX13, 39, rfl, by decide, inX13, sh_t6 (i := 60) (by decide +kernel) (by decide +kernel)⟩
theorem fl_X13_48 : sh_FL RX13 48 11 15 := ⟨RX13, TX13, 39, rfl, by decide, inX13, sh_t6 (i := 61) (by decide +kernel) (by decide +kernel)⟩
theorem fl_X13_51 : sh_FL RX13 51 11 16 := ⟨RX13, TX13, 39, rfl, by decide, inX13, sh_t6 (i := 62) (by decide +kernel) (by decide +kernel)⟩
theorem fl_X13_260 : sh_FL RX13 260 11 17 := ⟨RX13, TX13, 39, rfl, by decide, inX13, sh_t6 (i := 63) (by decide +kernel) (by decide +kernel)⟩
theorem fl_X13_267 : sh_FL RX13 267 11 18 := ⟨RX13, TX13, 39, rfl, by decide, inX13, sh_t6 (i := 64) (by decide +kernel) (by decide +kernel)⟩
theorem fl_X13_270 : sh_FL RX13 270 11 19 := ⟨RX13, TX13, 39, rfl, by decide, inX13, sh_t6 (i := 65) (by decide +kernel) (by decide +kernel)⟩
theorem fl_X13_54 : sh_FL RX13 54 11 20 := ⟨RX13, TX13, 39, rfl, by decide, inX13, sh_t6 (i := 66) (by decide +kernel) (by decide +kernel)⟩
theorem fl_X13_254 : sh_FL RX13 254 11 21 := ⟨RX13, TX13, 39, rfl, by decide, inX13, sh_t6 (i := 67) (by decide +kernel) (by decide +kernel)⟩
theorem fl_X13_355 : sh_FL RX13 355 11 22 := ⟨RX13, TX13, 39, rfl, by decide, inX13, sh_t6 (i := 68) (by decide +kernel) (by decide +kernel)⟩
theorem fl_X13_359 : sh_FL RX13 359 11 23 := ⟨RX13, TX13, 39, rfl, by decide, inX13, sh_t6 (i := 69) (by decide +kernel) (by decide +kernel)⟩
theorem fl_X13_58 : sh_FL RX13 58 11 24 := ⟨RX13, TX13, 39, rfl, by decide, inX13, sh_t6 (i := 70) (by decide +kernel) (by decide +kernel)⟩
theorem fl_X13_61 : sh_FL RX13 61 11 25 := ⟨RX13, TX13, 39, rfl, by decide, inX13, sh_t6 (i := 71) (by decide +kernel) (by decide +kernel)⟩
theorem fl_X13_64 : sh_FL RX13 64 11 26 := ⟨RX13, TX13, 39, rfl, by decide, inX13, sh_t6 (i := 72) (by decide +kernel) (by decide +kernel)⟩
theorem fl_X13_114 : sh_FL RX13 114 11 27 := ⟨RX13, TX13, 39, rfl, by decide, inX13, sh_t6 (i := 73) (by decide +kernel) (by decide +kernel)⟩
theorem fl_X13_137 : sh_FL RX13 137 11 28 := ⟨RX13, TX13, 39, rfl, by decide, inX13, sh_t6 (i := 74) (by decide +kernel) (by decide +kernel)⟩
theorem fl_X13_140 : sh_FL RX13 140 11 29 := ⟨RX13, TX13, 39, rfl, by decide, inX13, sh_t6 (i := 75) (by decide +kernel) (by decide +kernel)⟩
theorem fl_X13_150 : sh_FL RX13 150 11 30 := ⟨RX13, TX13, 39, rfl, by decide, inX13, sh_t6 (i := 76) (by decide +kernel) (by decide +kernel)⟩
theorem fl_X13_153 : sh_FL RX13 153 11 31 := ⟨RX13, TX13, 39, rfl, by decide, inX13, sh_t6 (i := 77) (by decide +kernel) (by decide +kernel)⟩
theorem fl_X13_143 : sh_FL RX13 143 11 32 := ⟨RX13, TX13, 39, rfl, by decide, inX13, sh_t6 (i := 78) (by decide +kernel) (by decide +kernel)⟩
theorem fl_X13_67 : sh_FL RX13 67 11 33 := ⟨RX13, TX13, 39, rfl, by decide, inX13, sh_t6 (i := 79) (by decide +kernel) (by decide +kernel)⟩
theorem fl_X13_70 : sh_FL RX13 70 11 34 := ⟨RX13, TX13, 39, rfl, by decide, inX13, sh_t6 (i := 80) (by decide +kernel) (by decide +kernel)⟩
theorem fl_X13_73 : sh_FL RX13 73 11 35 := ⟨RX13, TX13, 39, rfl, by decide, inX13, sh_t6 (i := 81) (by decide +kernel) (by decide +kernel)⟩
theorem fl_X13_188 : sh_FL RX13 188 11 36 := ⟨RX13, TX13, 39, rfl, by decide, inX13, sh_t6 (i := 82) (by decide +kernel) (by decide +kernel)⟩
theorem fl_X13_177 : sh_FL RX13 177 11 37 := ⟨RX13, TX13, 39, rfl, by decide, inX13, sh_t6 (i := 83) (by decide +kernel) (by decide +kernel)⟩
theorem fl_X13_76 : sh_FL RX13 76 11 38 := ⟨RX13, TX13, 39, rfl, by decide, inX13, sh_t6 (i := 84) (by decide +kernel) (by decide +kernel)⟩
theorem fp_0_1 : sh_FP 0 1 .boolean := ⟨RX2, TX2, 5, tyX2, rfl, tyX2_ok, nmX2, rfl, by decide +kernel⟩
theorem fp_0_2 : sh_FP 0 2 .int := ⟨RX2, TX2, 5, tyX2, rfl, tyX2_ok, nmX2, rfl, by decide +kernel⟩
theorem fp_0_3 : sh_FP 0 3 .int := ⟨RX2, TX2, 5, tyX2, rfl, tyX2_ok, nmX2, rfl, by decide +kernel⟩
theorem fp_0_4 : sh_FP 0 4 .int := ⟨RX2, TX2, 5, tyX2, rfl, tyX2_ok, nmX2, rfl, by decide +kernel⟩
theorem fp_1_1 : sh_FP 1 1 .int := ⟨RX3, TX3, 3, tyX3, rfl, tyX3_ok, nmX3, rfl, by decide +kernel⟩
theorem fp_1_2 : sh_FP 1 2 .int := ⟨RX3, TX3, 3, tyX3, rfl, tyX3_ok, nmX3, rfl, by decide +kernel⟩
theorem fp_2_4 : sh_FP 2 4 .int := ⟨RX4, TX4, 5, tyX4, rfl, tyX4_ok, nmX4, rfl, by decide +kernel⟩
theorem fp_3_3 : sh_FP 3 3 .int := ⟨RX5, TX5, 4, tyX5, rfl, tyX5_ok, nmX5, rfl, by decide +kernel⟩
theorem fp_4_3 : sh_FP 4 3 .int := ⟨RX6, TX6, 4, tyX6, rfl, tyX6_ok, nmX6, rfl, by decide +kernel⟩
theorem fp_5_0 : sh_FP 5 0 .int := ⟨RX7, TX7, 13, tyX7, rfl, tyX7_ok, nmX7, rfl, by decide +kernel⟩
theorem fp_5_1 : sh_FP 5 1 .int := ⟨RX7, TX7, 13, tyX7, rfl, tyX7_ok, nmX7, rfl, by decide +kernel⟩
theorem fp_5_2 : sh_FP 5 2 .boolean := ⟨RX7, TX7, 13, tyX7, rfl, tyX7_ok, nmX7, rfl, by decide +kernel⟩
theorem fp_5_3 : sh_FP 5 3 .int := ⟨RX7, TX7, 13, tyX7, rfl, tyX7_ok, nmX7, rfl, by decide +kernel⟩
theorem fp_6_4 : sh_FP 6 4 .int := ⟨RX8, TX8, 5, tyX8, rfl, tyX8_ok, nmX8, rfl, by decide +kernel⟩
theorem fp_7_1 : sh_FP 7 1 .int := ⟨RX9, TX9, 2, tyX9, rfl, tyX9_ok, nmX9, rfl, by decide +kernel⟩
theorem fp_8_1 : sh_FP 8 1 .int := ⟨RX10, TX10, 9, tyX10, rfl, tyX10_ok, nmX10, rfl, by decide +kernel⟩
theorem fp_8_2 : sh_FP 8 2 .int := ⟨RX10, TX10, 9, tyX10, rfl, tyX10_ok, nmX10, rfl, by decide +kernel⟩
theorem fp_8_3 : sh_FP 8 3 .int := ⟨RX10, TX10, 9, tyX10, rfl, tyX10_ok, nmX10, rfl, by decide +kernel⟩
theorem fp_8_4 : sh_FP 8 4 .int := ⟨RX10, TX10, 9, tyX10, rfl, tyX10_ok, nmX10, rfl, by decide +kernel⟩
theorem fp_8_5 : sh_FP 8 5 (.object "SteadyShelf$Act") := ⟨RX10, TX10, 9, tyX10, rfl, tyX10_ok, nmX10, rfl, by decide +kernel⟩
theorem fp_8_6 : sh_FP 8 6 .long := ⟨RX10, TX10, 9, tyX10, rfl, tyX10_ok, nmX10, rfl, by decide +kernel⟩
theorem fp_8_7 : sh_FP 8 7 .long := ⟨RX10, TX10, 9, tyX10, rfl, tyX10_ok, nmX10, rfl, by decide +kernel⟩
theorem fp_8_8 : sh_FP 8 8 .int := ⟨RX10, TX10, 9, tyX10, rfl, tyX10_ok, nmX10, rfl, by decide +kernel⟩
theorem fp_9_2 : sh_FP 9 2 .int := ⟨RX11, TX11, 4, tyX11, rfl, tyX11_ok, nmX11, rfl, by decide +kernel⟩
theorem fp_9_3 : sh_FP 9 3 .int := ⟨RX11, TX11, 4, tyX11, rfl, tyX11_ok, nmX11, rfl, by decide +kernel⟩
theorem fp_10_9 : sh_FP 10 9 .boolean := ⟨RX12, TX12, 11, tyX12, rfl, tyX12_ok, nmX12, rfl, by decide +kernel⟩
theorem fp_10_10 : sh_FP 10 10 .int := ⟨RX12, TX12, 11, tyX12, rfl, tyX12_ok, nmX12, rfl, by decide +kernel⟩
theorem fp_11_0 : sh_FP 11 0 .int := ⟨RX13, TX13, 39, tyX13, rfl, tyX13_ok, nmX13, rfl, by decide +kernel⟩
theorem fp_11_5 : sh_FP 11 5 .int := ⟨RX13, TX13, 39, tyX13, rfl, tyX13_ok, nmX13, rfl, by decide +kernel⟩
theorem fp_11_10 : sh_FP 11 10 .boolean := ⟨RX13, TX13, 39, tyX13, rfl, tyX13_ok, nmX13, rfl, by decide +kernel⟩
theorem fp_11_17 : sh_FP 11 17 .int := ⟨RX13, TX13, 39, tyX13, rfl, tyX13_ok, nmX13, rfl, by decide +kernel⟩
theorem fp_11_18 : sh_FP 11 18 .int := ⟨RX13, TX13, 39, tyX13, rfl, tyX13_ok, nmX13, rfl, by decide +kernel⟩
theorem fp_11_19 : sh_FP 11 19 .int := ⟨RX13, TX13, 39, tyX13, rfl, tyX13_ok, nmX13, rfl, by decide +kernel⟩
theorem fp_11_20 : sh_FP 11 20 .int := ⟨RX13, TX13, 39, tyX13, rfl, tyX13_ok, nmX13, rfl, by decide +kernel⟩
theorem fp_11_21 : sh_FP 11 21 .int := ⟨RX13, TX13, 39, tyX13, rfl, tyX13_ok, nmX13, rfl, by decide +kernel⟩
theorem fp_11_22 : sh_FP 11 22 .long := ⟨RX13, TX13, 39, tyX13, rfl, tyX13_ok, nmX13, rfl, by decide +kernel⟩
theorem fp_11_23 : sh_FP 11 23 .long := ⟨RX13, TX13, 39, tyX13, rfl, tyX13_ok, nmX13, rfl, by decide +kernel⟩
theorem fp_11_27 : sh_FP 11 27 .int := ⟨RX13, TX13, 39, tyX13, rfl, tyX13_ok, nmX13, rfl, by decide +kernel⟩
theorem fp_11_28 : sh_FP 11 28 .int := ⟨RX13, TX13, 39, tyX13, rfl, tyX13_ok, nmX13, rfl, by decide +kernel⟩
theorem fp_11_29 : sh_FP 11 29 .int := ⟨RX13, TX13, 39, tyX13, rfl, tyX13_ok, nmX13, rfl, by decide +kernel⟩
theorem fp_11_30 : sh_FP 11 30 .int := ⟨RX13, TX13, 39, tyX13, rfl, tyX13_ok, nmX13, rfl, by decide +kernel⟩
theorem fp_11_31 : sh_FP 11 31 .int := ⟨RX13, TX13, 39, tyX13, rfl, tyX13_ok, nmX13, rfl, by decide +kernel⟩
theorem fp_11_32 : sh_FP 11 32 .int := ⟨RX13, TX13, 39, tyX13, rfl, tyX13_ok, nmX13, rfl, by decide +kernel⟩
theorem fp_11_36 : sh_FP 11 36 .int := ⟨RX13, TX13, 39, tyX13, rfl, tyX13_ok, nmX13, rfl, by decide +kernel⟩
theorem fp_11_37 : sh_FP 11 37 .int := ⟨RX13, TX13, 39, tyX13, rfl, tyX13_ok, nmX13, rfl, by decide +kernel⟩
theorem ml_X12_18 : Cond.methodLink RX12 18 yX10_init ∈ sh_ws := sh_t1 (i := 55) (by decide +kernel) (by decide +kernel)
theorem ml_X12_27 : Cond.methodLink RX12 27 yX7_init ∈ sh_ws := sh_t1 (i := 98) (by decide +kernel) (by decide +kernel)
theorem ml_X12_40 : Cond.methodLink RX12 40 yX3_init ∈ sh_ws := sh_t1 (i := 186) (by decide +kernel) (by decide +kernel)
theorem ml_X3_24 : Cond.methodLink RX3 24 yX7_init ∈ sh_ws := sh_t1 (i := 192) (by decide +kernel) (by decide +kernel)
theorem ml_X12_47 : Cond.methodLink RX12 47 yX4_init ∈ sh_ws := sh_t1 (i := 206) (by decide +kernel) (by decide +kernel)
theorem ml_X12_56 : Cond.methodLink RX12 56 yX8_init ∈ sh_ws := sh_t2 (i := 75) (by decide +kernel) (by decide +kernel)
theorem ml_X12_81 : Cond.methodLink RX12 81 yX9_append ∈ sh_ws := sh_t2 (i := 161) (by decide +kernel) (by decide +kernel)
theorem ml_X12_270 : Cond.methodLink RX12 270 yX5_gather ∈ sh_ws := sh_t2 (i := 181) (by decide +kernel) (by decide +kernel)
theorem ml_X5_30 : Cond.methodLink RX5 30 yX5_addRowsOf ∈ sh_ws := sh_t2 (i := 185) (by decide +kernel) (by decide +kernel)
theorem ml_X12_92 : Cond.methodLink RX12 92 yX7_copyFrom ∈ sh_ws := sh_t2 (i := 193) (by decide +kernel) (by decide +kernel)
theorem ml_X7_54 : Cond.methodLink RX7 54 arraycopyName ∈ sh_ws := sh_t2 (i := 197) (by decide +kernel) (by decide +kernel)
theorem ml_X12_105 : Cond.methodLink RX12 105 yX3_forget ∈ sh_ws := sh_t2 (i := 204) (by decide +kernel) (by decide +kernel)
theorem ml_X12_334 : Cond.methodLink RX12 334 yX12_closeReaders ∈ sh_ws := sh_t2 (i := 208) (by decide +kernel) (by decide +kernel)
theorem ml_X12_337 : Cond.methodLink RX12 337 yX7_entriesInAll ∈ sh_ws := sh_t2 (i := 216) (by decide +kernel) (by decide +kernel)
theorem ml_X12_340 : Cond.methodLink RX12 340 yX7_blocksOfKind ∈ sh_ws := sh_t2 (i := 220) (by decide +kernel) (by decide +kernel)
theorem ml_X12_346 : Cond.methodLink RX12 346 yX7_tornIndexes ∈ sh_ws := sh_t2 (i := 224) (by decide +kernel) (by decide +kernel)
theorem ml_X12_85 : Cond.methodLink RX12 85 yX9_useUp ∈ sh_ws := sh_t2 (i := 236) (by decide +kernel) (by decide +kernel)
theorem ml_X12_89 : Cond.methodLink RX12 89 yX10_begin ∈ sh_ws := sh_t3 (i := 0) (by decide +kernel) (by decide +kernel)
theorem ml_X12_95 : Cond.methodLink RX12 95 yX12_doText ∈ sh_ws := sh_t3 (i := 4) (by decide +kernel) (by decide +kernel)
theorem ml_X12_378 : Cond.methodLink RX12 378 yX10_isOver ∈ sh_ws := sh_t3 (i := 8) (by decide +kernel) (by decide +kernel)
theorem ml_X10_51 : Cond.methodLink RX10 51 yX10_skipBlanks ∈ sh_ws := sh_t3 (i := 12) (by decide +kernel) (by decide +kernel)
theorem ml_X10_47 : Cond.methodLink RX10 47 yX10_byteAt ∈ sh_ws := sh_t3 (i := 16) (by decide +kernel) (by decide +kernel)
theorem ml_X12_381 : Cond.methodLink RX12 381 yX10_readAct ∈ sh_ws := sh_t3 (i := 20) (by decide +kernel) (by decide +kernel)
theorem ml_X10_62 : Cond.methodLink RX10 62 yX10_passLetters ∈ sh_ws := sh_t3 (i := 24) (by decide +kernel) (by decide +kernel)
theorem ml_X10_112 : Cond.methodLink RX10 112 yX10_isLetter ∈ sh_ws := sh_t3 (i := 28) (by decide +kernel) (by decide +kernel)
theorem ml_X10_69 : Cond.methodLink RX10 69 yX10_actNumber ∈ sh_ws := sh_t3 (i := 31) (by decide +kernel) (by decide +kernel)
theorem ml_X10_100 : Cond.methodLink RX10 100 yX10_isWord ∈ sh_ws := sh_t3 (i := 37) (by decide +kernel) (by decide +kernel)
theorem ml_X10_58 : Cond.methodLink RX10 58 yX10_markWrong ∈ sh_ws := sh_t3 (i := 89) (by decide +kernel) (by decide +kernel)
theorem ml_X10_80 : Cond.methodLink RX10 80 yX10_readName ∈ sh_ws := sh_t3 (i := 93) (by decide +kernel) (by decide +kernel)
theorem ml_X10_84 : Cond.methodLink RX10 84 yX1_takesNumber ∈ sh_ws := sh_t3 (i := 97) (by decide +kernel) (by decide +kernel)
theorem ml_X10_93 : Cond.methodLink RX10 93 yX10_readNumber ∈ sh_ws := sh_t3 (i := 101) (by decide +kernel) (by decide +kernel)
theorem ml_X10_66 : Cond.methodLink RX10 66 yX10_passDigits ∈ sh_ws := sh_t3 (i := 105) (by decide +kernel) (by decide +kernel)
theorem ml_X10_116 : Cond.methodLink RX10 116 yX10_isDigit ∈ sh_ws := sh_t3 (i := 109) (by decide +kernel) (by decide +kernel)
theorem ml_X12_364 : Cond.methodLink RX12 364 yX4_refusalOf ∈ sh_ws := sh_t3 (i := 112) (by decide +kernel) (by decide +kernel)
theorem ml_X4_109 : Cond.methodLink RX4 109 yX4_refusalOfPut ∈ sh_ws := sh_t3 (i := 124) (by decide +kernel) (by decide +kernel)
theorem ml_X4_93 : Cond.methodLink RX4 93 yX4_look ∈ sh_ws := sh_t3 (i := 128) (by decide +kernel) (by decide +kernel)
theorem ml_X4_48 : Cond.methodLink RX4 48 yX7_tornIndexes ∈ sh_ws := sh_t3 (i := 132) (by decide +kernel) (by decide +kernel)
theorem ml_X4_54 : Cond.methodLink RX4 54 yX4_lookEverywhere ∈ sh_ws := sh_t3 (i := 133) (by decide +kernel) (by decide +kernel)
theorem ml_X4_74 : Cond.methodLink RX4 74 yX4_lookInto ∈ sh_ws := sh_t3 (i := 137) (by decide +kernel) (by decide +kernel)
theorem ml_X4_58 : Cond.methodLink RX4 58 yX7_hashOf ∈ sh_ws := sh_t3 (i := 145) (by decide +kernel) (by decide +kernel)
theorem ml_X12_252 : Cond.methodLink RX12 252 yX12_codeAt ∈ sh_ws := sh_t3 (i := 152) (by decide +kernel) (by decide +kernel)
theorem ml_X12_359 : Cond.methodLink RX12 359 yX12_stirred ∈ sh_ws := sh_t3 (i := 155) (by decide +kernel) (by decide +kernel)
theorem ml_X4_61 : Cond.methodLink RX4 61 yX4_trace ∈ sh_ws := sh_t3 (i := 159) (by decide +kernel) (by decide +kernel)
theorem ml_X4_40 : Cond.methodLink RX4 40 yX5_gather ∈ sh_ws := sh_t3 (i := 163) (by decide +kernel) (by decide +kernel)
theorem ml_X4_44 : Cond.methodLink RX4 44 yX11_trace ∈ sh_ws := sh_t3 (i := 164) (by decide +kernel) (by decide +kernel)
theorem ml_X11_30 : Cond.methodLink RX11 30 Lib.Math.min.name ∈ sh_ws := sh_t3 (i := 168) (by decide +kernel) (by decide +kernel)
theorem ml_X11_36 : Cond.methodLink RX11 36 yX11_rowFor ∈ sh_ws := sh_t3 (i := 171) (by decide +kernel) (by decide +kernel)
theorem ml_X11_43 : Cond.methodLink RX11 43 yX5_placeOf ∈ sh_ws := sh_t3 (i := 174) (by decide +kernel) (by decide +kernel)
theorem ml_X11_50 : Cond.methodLink RX11 50 yX11_goesOn ∈ sh_ws := sh_t3 (i := 178) (by decide +kernel) (by decide +kernel)
theorem ml_X4_123 : Cond.methodLink RX4 123 yX4_blocksFor ∈ sh_ws := sh_t3 (i := 181) (by decide +kernel) (by decide +kernel)
theorem ml_X4_137 : Cond.methodLink RX4 137 yX4_spotOnWay ∈ sh_ws := sh_t3 (i := 185) (by decide +kernel) (by decide +kernel)
theorem ml_X4_149 : Cond.methodLink RX4 149 yX7_emptySlotOf ∈ sh_ws := sh_t3 (i := 189) (by decide +kernel) (by decide +kernel)
theorem ml_X4_146 : Cond.methodLink RX4 146 yX11_lowestIndex ∈ sh_ws := sh_t3 (i := 193) (by decide +kernel) (by decide +kernel)
theorem ml_X4_112 : Cond.methodLink RX4 112 yX4_refusalOfTurn ∈ sh_ws := sh_t3 (i := 197) (by decide +kernel) (by decide +kernel)
theorem ml_X4_116 : Cond.methodLink RX4 116 yX4_isTooMuchToBuild ∈ sh_ws := sh_t3 (i := 201) (by decide +kernel) (by decide +kernel)
theorem ml_X4_126 : Cond.methodLink RX4 126 yX7_entriesInAll ∈ sh_ws := sh_t3 (i := 205) (by decide +kernel) (by decide +kernel)
theorem ml_X4_120 : Cond.methodLink RX4 120 yX4_wouldFoldMeet ∈ sh_ws := sh_t3 (i := 206) (by decide +kernel) (by decide +kernel)
theorem ml_X4_132 : Cond.methodLink RX4 132 yX6_add ∈ sh_ws := sh_t3 (i := 211) (by decide +kernel) (by decide +kernel)
theorem ml_X6_26 : Cond.methodLink RX6 26 yX6_isAhead ∈ sh_ws := sh_t3 (i := 215) (by decide +kernel) (by decide +kernel)
theorem ml_X12_400 : Cond.methodLink RX12 400 yX10_markWrong ∈ sh_ws := sh_t3 (i := 219) (by decide +kernel) (by decide +kernel)
theorem ml_X12_372 : Cond.methodLink RX12 372 yX4_carryOut ∈ sh_ws := sh_t3 (i := 220) (by decide +kernel) (by decide +kernel)
theorem ml_X4_153 : Cond.methodLink RX4 153 yX4_placeEntry ∈ sh_ws := sh_t3 (i := 224) (by decide +kernel) (by decide +kernel)
theorem ml_X4_189 : Cond.methodLink RX4 189 yX7_setEntry ∈ sh_ws := sh_t3 (i := 228) (by decide +kernel) (by decide +kernel)
theorem ml_X4_193 : Cond.methodLink RX4 193 yX11_firstLeaf ∈ sh_ws := sh_t3 (i := 232) (by decide +kernel) (by decide +kernel)
theorem ml_X4_196 : Cond.methodLink RX4 196 yX4_poolOfLeaf ∈ sh_ws := sh_t3 (i := 236) (by decide +kernel) (by decide +kernel)
theorem ml_X4_199 : Cond.methodLink RX4 199 yX4_splitLeaf ∈ sh_ws := sh_t4 (i := 0) (by decide +kernel) (by decide +kernel)
theorem ml_X4_209 : Cond.methodLink RX4 209 yX6_markAt ∈ sh_ws := sh_t4 (i := 4) (by decide +kernel) (by decide +kernel)
theorem ml_X4_212 : Cond.methodLink RX4 212 yX7_takeLeastFree ∈ sh_ws := sh_t4 (i := 8) (by decide +kernel) (by decide +kernel)
theorem ml_X4_215 : Cond.methodLink RX4 215 yX7_layLeaf ∈ sh_ws := sh_t4 (i := 12) (by decide +kernel) (by decide +kernel)
theorem ml_X7_72 : Cond.methodLink RX7 72 yX7_setEntry ∈ sh_ws := sh_t4 (i := 16) (by decide +kernel) (by decide +kernel)
theorem ml_X4_219 : Cond.methodLink RX4 219 yX7_raiseRoot ∈ sh_ws := sh_t4 (i := 17) (by decide +kernel) (by decide +kernel)
theorem ml_X7_86 : Cond.methodLink RX7 86 yX7_insertRow ∈ sh_ws := sh_t4 (i := 21) (by decide +kernel) (by decide +kernel)
theorem ml_X7_76 : Cond.methodLink RX7 76 Lib.Math.min.name ∈ sh_ws := sh_t4 (i := 25) (by decide +kernel) (by decide +kernel)
theorem ml_X7_82 : Cond.methodLink RX7 82 yX7_copyRow ∈ sh_ws := sh_t4 (i := 26) (by decide +kernel) (by decide +kernel)
theorem ml_X4_226 : Cond.methodLink RX4 226 yX7_insertRow ∈ sh_ws := sh_t4 (i := 30) (by decide +kernel) (by decide +kernel)
theorem ml_X4_202 : Cond.methodLink RX4 202 yX4_splitIndex ∈ sh_ws := sh_t4 (i := 31) (by decide +kernel) (by decide +kernel)
theorem ml_X4_230 : Cond.methodLink RX4 230 yX7_copyRows ∈ sh_ws := sh_t4 (i := 35) (by decide +kernel) (by decide +kernel)
theorem ml_X4_157 : Cond.methodLink RX4 157 yX4_removeEntry ∈ sh_ws := sh_t4 (i := 39) (by decide +kernel) (by decide +kernel)
theorem ml_X4_163 : Cond.methodLink RX4 163 yX4_layAnew ∈ sh_ws := sh_t4 (i := 43) (by decide +kernel) (by decide +kernel)
theorem ml_X4_239 : Cond.methodLink RX4 239 yX7_freeAll ∈ sh_ws := sh_t4 (i := 47) (by decide +kernel) (by decide +kernel)
theorem ml_X4_245 : Cond.methodLink RX4 245 yX4_layIndexes ∈ sh_ws := sh_t4 (i := 54) (by decide +kernel) (by decide +kernel)
theorem ml_X4_248 : Cond.methodLink RX4 248 yX4_layRows ∈ sh_ws := sh_t4 (i := 58) (by decide +kernel) (by decide +kernel)
theorem ml_X4_258 : Cond.methodLink RX4 258 yX4_limitOfLaid ∈ sh_ws := sh_t4 (i := 62) (by decide +kernel) (by decide +kernel)
theorem ml_X4_252 : Cond.methodLink RX4 252 Lib.Math.min.name ∈ sh_ws := sh_t4 (i := 66) (by decide +kernel) (by decide +kernel)
theorem ml_X4_166 : Cond.methodLink RX4 166 yX7_blocksOfKind ∈ sh_ws := sh_t4 (i := 67) (by decide +kernel) (by decide +kernel)
theorem ml_X4_169 : Cond.methodLink RX4 169 yX4_retune ∈ sh_ws := sh_t4 (i := 68) (by decide +kernel) (by decide +kernel)
theorem ml_X12_403 : Cond.methodLink RX12 403 yX10_passSemicolon ∈ sh_ws := sh_t4 (i := 78) (by decide +kernel) (by decide +kernel)
theorem ml_X10_54 : Cond.methodLink RX10 54 yX10_isOver ∈ sh_ws := sh_t4 (i := 82) (by decide +kernel) (by decide +kernel)
theorem ml_X12_406 : Cond.methodLink RX12 406 yX12_endText ∈ sh_ws := sh_t4 (i := 83) (by decide +kernel) (by decide +kernel)
theorem ml_X12_134 : Cond.methodLink RX12 134 yX10_isRightlyOver ∈ sh_ws := sh_t4 (i := 87) (by decide +kernel) (by decide +kernel)
theorem ml_X12_410 : Cond.methodLink RX12 410 yX10_skipBlanks ∈ sh_ws := sh_t4 (i := 91) (by decide +kernel) (by decide +kernel)
theorem ml_X12_113 : Cond.methodLink RX12 113 yX12_nameTold ∈ sh_ws := sh_t4 (i := 170) (by decide +kernel) (by decide +kernel)
theorem ml_X12_130 : Cond.methodLink RX12 130 yX10_readName ∈ sh_ws := sh_t4 (i := 174) (by decide +kernel) (by decide +kernel)
theorem ml_X12_123 : Cond.methodLink RX12 123 yX12_doByCall ∈ sh_ws := sh_t4 (i := 177) (by decide +kernel) (by decide +kernel)
theorem ml_X12_369 : Cond.methodLink RX12 369 yX3_remember ∈ sh_ws := sh_t4 (i := 197) (by decide +kernel) (by decide +kernel)
theorem ml_X3_25 : Cond.methodLink RX3 25 yX7_copyFrom ∈ sh_ws := sh_t4 (i := 201) (by decide +kernel) (by decide +kernel)
theorem ml_X3_29 : Cond.methodLink RX3 29 Lib.Math.min.name ∈ sh_ws := sh_t4 (i := 202) (by decide +kernel) (by decide +kernel)
theorem ml_X12_163 : Cond.methodLink RX12 163 yX1_takesNumber ∈ sh_ws := sh_t5 (i := 19) (by decide +kernel) (by decide +kernel)
theorem ml_X12_174 : Cond.methodLink RX12 174 yX12_isBlock ∈ sh_ws := sh_t5 (i := 29) (by decide +kernel) (by decide +kernel)
theorem ml_X12_194 : Cond.methodLink RX12 194 yX3_takeBack ∈ sh_ws := sh_t5 (i := 58) (by decide +kernel) (by decide +kernel)
theorem ml_X12_197 : Cond.methodLink RX12 197 yX4_whereabouts ∈ sh_ws := sh_t5 (i := 69) (by decide +kernel) (by decide +kernel)
theorem ml_X12_201 : Cond.methodLink RX12 201 yX8_ofName ∈ sh_ws := sh_t5 (i := 73) (by decide +kernel) (by decide +kernel)
theorem ml_X8_30 : Cond.methodLink RX8 30 yX7_hashOf ∈ sh_ws := sh_t5 (i := 77) (by decide +kernel) (by decide +kernel)
theorem ml_X8_36 : Cond.methodLink RX8 36 yX7_entriesOfHash ∈ sh_ws := sh_t5 (i := 78) (by decide +kernel) (by decide +kernel)
theorem ml_X8_40 : Cond.methodLink RX8 40 yX8_roomOnWay ∈ sh_ws := sh_t5 (i := 82) (by decide +kernel) (by decide +kernel)
theorem ml_X8_127 : Cond.methodLink RX8 127 yX4_trace ∈ sh_ws := sh_t5 (i := 86) (by decide +kernel) (by decide +kernel)
theorem ml_X8_95 : Cond.methodLink RX8 95 yX7_entriesIn ∈ sh_ws := sh_t5 (i := 87) (by decide +kernel) (by decide +kernel)
theorem ml_X8_43 : Cond.methodLink RX8 43 yX4_refusalOfPut ∈ sh_ws := sh_t5 (i := 91) (by decide +kernel) (by decide +kernel)
theorem ml_X8_48 : Cond.methodLink RX8 48 yX4_blocksFor ∈ sh_ws := sh_t5 (i := 92) (by decide +kernel) (by decide +kernel)
theorem ml_X8_51 : Cond.methodLink RX8 51 yX8_mateOf ∈ sh_ws := sh_t5 (i := 93) (by decide +kernel) (by decide +kernel)
theorem ml_X8_148 : Cond.methodLink RX8 148 yX8_twoLetters ∈ sh_ws := sh_t5 (i := 98) (by decide +kernel) (by decide +kernel)
theorem ml_X8_152 : Cond.methodLink RX8 152 yX4_look ∈ sh_ws := sh_t5 (i := 101) (by decide +kernel) (by decide +kernel)
theorem ml_X12_204 : Cond.methodLink RX12 204 yX7_hashOf ∈ sh_ws := sh_t5 (i := 109) (by decide +kernel) (by decide +kernel)
theorem ml_X12_208 : Cond.methodLink RX12 208 yX4_trace ∈ sh_ws := sh_t5 (i := 110) (by decide +kernel) (by decide +kernel)
theorem ml_X12_215 : Cond.methodLink RX12 215 yX11_blockAt ∈ sh_ws := sh_t5 (i := 111) (by decide +kernel) (by decide +kernel)
theorem ml_X12_228 : Cond.methodLink RX12 228 yX7_entriesIn ∈ sh_ws := sh_t5 (i := 122) (by decide +kernel) (by decide +kernel)
theorem ml_X12_234 : Cond.methodLink RX12 234 yX12_isSlot ∈ sh_ws := sh_t5 (i := 130) (by decide +kernel) (by decide +kernel)
theorem ml_X12_249 : Cond.methodLink RX12 249 yX12_lettersOf ∈ sh_ws := sh_t5 (i := 134) (by decide +kernel) (by decide +kernel)
theorem ml_X12_279 : Cond.methodLink RX12 279 yX8_ofAll ∈ sh_ws := sh_t5 (i := 159) (by decide +kernel) (by decide +kernel)
theorem ml_X8_58 : Cond.methodLink RX8 58 yX5_gather ∈ sh_ws := sh_t5 (i := 163) (by decide +kernel) (by decide +kernel)
theorem ml_X8_67 : Cond.methodLink RX8 67 yX8_crowdBy ∈ sh_ws := sh_t5 (i := 164) (by decide +kernel) (by decide +kernel)
theorem ml_X8_107 : Cond.methodLink RX8 107 yX8_tallyBy ∈ sh_ws := sh_t5 (i := 168) (by decide +kernel) (by decide +kernel)
theorem ml_X8_80 : Cond.methodLink RX8 80 Lib.Math.max.name ∈ sh_ws := sh_t5 (i := 173) (by decide +kernel) (by decide +kernel)
theorem ml_X8_70 : Cond.methodLink RX8 70 yX8_longestChain ∈ sh_ws := sh_t5 (i := 176) (by decide +kernel) (by decide +kernel)
theorem ml_X8_158 : Cond.methodLink RX8 158 yX11_trace ∈ sh_ws := sh_t5 (i := 180) (by decide +kernel) (by decide +kernel)
theorem ml_X8_74 : Cond.methodLink RX8 74 yX7_entriesInAll ∈ sh_ws := sh_t5 (i := 181) (by decide +kernel) (by decide +kernel)
theorem ml_X8_86 : Cond.methodLink RX8 86 yX8_fewestInLeaf ∈ sh_ws := sh_t5 (i := 183) (by decide +kernel) (by decide +kernel)
theorem ml_X8_162 : Cond.methodLink RX8 162 Lib.Math.min.name ∈ sh_ws := sh_t5 (i := 187) (by decide +kernel) (by decide +kernel)
theorem ml_X8_92 : Cond.methodLink RX8 92 yX8_fullestPlace ∈ sh_ws := sh_t5 (i := 188) (by decide +kernel) (by decide +kernel)
theorem ml_X8_98 : Cond.methodLink RX8 98 yX8_entriesBehind ∈ sh_ws := sh_t5 (i := 192) (by decide +kernel) (by decide +kernel)
theorem ml_X8_165 : Cond.methodLink RX8 165 yX11_firstLeaf ∈ sh_ws := sh_t5 (i := 196) (by decide +kernel) (by decide +kernel)
theorem ml_X8_101 : Cond.methodLink RX8 101 yX8_widestIndex ∈ sh_ws := sh_t5 (i := 197) (by decide +kernel) (by decide +kernel)
theorem ml_X8_104 : Cond.methodLink RX8 104 yX8_leastFreeHash ∈ sh_ws := sh_t5 (i := 201) (by decide +kernel) (by decide +kernel)
theorem ml_X12_282 : Cond.methodLink RX12 282 yX12_isKey ∈ sh_ws := sh_t5 (i := 212) (by decide +kernel) (by decide +kernel)
theorem ml_X12_287 : Cond.methodLink RX12 287 yX8_crowdBy ∈ sh_ws := sh_t5 (i := 216) (by decide +kernel) (by decide +kernel)
theorem ml_X12_292 : Cond.methodLink RX12 292 yX8_leastCrowdedKey ∈ sh_ws := sh_t5 (i := 225) (by decide +kernel) (by decide +kernel)
theorem ml_X12_296 : Cond.methodLink RX12 296 yX12_isReader ∈ sh_ws := sh_t5 (i := 237) (by decide +kernel) (by decide +kernel)
theorem ml_X12_304 : Cond.methodLink RX12 304 yX2_restart ∈ sh_ws := sh_t6 (i := 1) (by decide +kernel) (by decide +kernel)
theorem ml_X12_312 : Cond.methodLink RX12 312 yX7_leastHashFrom ∈ sh_ws := sh_t6 (i := 13) (by decide +kernel) (by decide +kernel)
theorem ml_X12_315 : Cond.methodLink RX12 315 yX4_poolOfHash ∈ sh_ws := sh_t6 (i := 17) (by decide +kernel) (by decide +kernel)
theorem ml_X12_322 : Cond.methodLink RX12 322 yX2_take ∈ sh_ws := sh_t6 (i := 21) (by decide +kernel) (by decide +kernel)
theorem ml_X2_32 : Cond.methodLink RX2 32 Lib.Math.min.name ∈ sh_ws := sh_t6 (i := 25) (by decide +kernel) (by decide +kernel)
theorem ml_X13_263 : Cond.methodLink RX13 263 yX13_isIn ∈ sh_ws := sh_t6 (i := 177) (by decide +kernel) (by decide +kernel)
theorem ml_X13_340 : Cond.methodLink RX13 340 yX13_begins ∈ sh_ws := sh_t6 (i := 184) (by decide +kernel) (by decide +kernel)
theorem ml_X13_343 : Cond.methodLink RX13 343 yX13_putsAside ∈ sh_ws := sh_t6 (i := 188) (by decide +kernel) (by decide +kernel)
theorem ml_X13_346 : Cond.methodLink RX13 346 yX13_comesMore ∈ sh_ws := sh_t6 (i := 192) (by decide +kernel) (by decide +kernel)
theorem ml_X13_273 : Cond.methodLink RX13 273 yX13_here ∈ sh_ws := sh_t6 (i := 196) (by decide +kernel) (by decide +kernel)
theorem ml_X13_292 : Cond.methodLink RX13 292 yX13_wrong ∈ sh_ws := sh_t6 (i := 200) (by decide +kernel) (by decide +kernel)
theorem ml_X13_349 : Cond.methodLink RX13 349 yX13_act ∈ sh_ws := sh_t6 (i := 204) (by decide +kernel) (by decide +kernel)
theorem ml_X13_297 : Cond.methodLink RX13 297 yX13_has ∈ sh_ws := sh_t6 (i := 209) (by decide +kernel) (by decide +kernel)
theorem ml_X13_280 : Cond.methodLink RX13 280 yX13_wordEnd ∈ sh_ws := sh_t6 (i := 213) (by decide +kernel) (by decide +kernel)
theorem ml_X13_276 : Cond.methodLink RX13 276 yX13_isLetter ∈ sh_ws := sh_t6 (i := 217) (by decide +kernel) (by decide +kernel)
theorem ml_X13_301 : Cond.methodLink RX13 301 yX13_name ∈ sh_ws := sh_t6 (i := 222) (by decide +kernel) (by decide +kernel)
theorem ml_X13_305 : Cond.methodLink RX13 305 yX13_number ∈ sh_ws := sh_t6 (i := 226) (by decide +kernel) (by decide +kernel)
theorem ml_X13_308 : Cond.methodLink RX13 308 yX13_put0 ∈ sh_ws := sh_t6 (i := 230) (by decide +kernel) (by decide +kernel)
theorem ml_X13_226 : Cond.methodLink RX13 226 yX13_seeks ∈ sh_ws := sh_t6 (i := 234) (by decide +kernel) (by decide +kernel)
theorem ml_X13_156 : Cond.methodLink RX13 156 yX13_isAnyTorn ∈ sh_ws := sh_t6 (i := 238) (by decide +kernel) (by decide +kernel)
theorem ml_X13_90 : Cond.methodLink RX13 90 yX13_countOf ∈ sh_ws := sh_t7 (i := 2) (by decide +kernel) (by decide +kernel)
theorem ml_X13_160 : Cond.methodLink RX13 160 yX13_isInBlock ∈ sh_ws := sh_t7 (i := 6) (by decide +kernel) (by decide +kernel)
theorem ml_X13_86 : Cond.methodLink RX13 86 yX13_isEmpty ∈ sh_ws := sh_t7 (i := 10) (by decide +kernel) (by decide +kernel)
theorem ml_X13_82 : Cond.methodLink RX13 82 yX13_slotAt ∈ sh_ws := sh_t7 (i := 14) (by decide +kernel) (by decide +kernel)
theorem ml_X13_146 : Cond.methodLink RX13 146 yX13_areOne ∈ sh_ws := sh_t7 (i := 17) (by decide +kernel) (by decide +kernel)
theorem ml_X13_101 : Cond.methodLink RX13 101 yX13_folded ∈ sh_ws := sh_t7 (i := 21) (by decide +kernel) (by decide +kernel)
theorem ml_X13_93 : Cond.methodLink RX13 93 yX13_letterOf ∈ sh_ws := sh_t7 (i := 24) (by decide +kernel) (by decide +kernel)
theorem ml_X13_97 : Cond.methodLink RX13 97 yX13_small ∈ sh_ws := sh_t7 (i := 27) (by decide +kernel) (by decide +kernel)
theorem ml_X13_164 : Cond.methodLink RX13 164 yX13_hashOf ∈ sh_ws := sh_t7 (i := 30) (by decide +kernel) (by decide +kernel)
theorem ml_X13_110 : Cond.methodLink RX13 110 yX13_hash ∈ sh_ws := sh_t7 (i := 34) (by decide +kernel) (by decide +kernel)
theorem ml_X13_105 : Cond.methodLink RX13 105 yX13_longOf ∈ sh_ws := sh_t7 (i := 37) (by decide +kernel) (by decide +kernel)
theorem ml_X13_167 : Cond.methodLink RX13 167 yX13_goes ∈ sh_ws := sh_t7 (i := 41) (by decide +kernel) (by decide +kernel)
theorem ml_X13_128 : Cond.methodLink RX13 128 yX13_laysLine ∈ sh_ws := sh_t7 (i := 45) (by decide +kernel) (by decide +kernel)
theorem ml_X13_121 : Cond.methodLink RX13 121 yX13_joins ∈ sh_ws := sh_t7 (i := 49) (by decide +kernel) (by decide +kernel)
theorem ml_X13_117 : Cond.methodLink RX13 117 yX13_rowAt ∈ sh_ws := sh_t7 (i := 53) (by decide +kernel) (by decide +kernel)
theorem ml_X13_131 : Cond.methodLink RX13 131 yX13_firstOf ∈ sh_ws := sh_t7 (i := 56) (by decide +kernel) (by decide +kernel)
theorem ml_X13_125 : Cond.methodLink RX13 125 yX13_rowFor ∈ sh_ws := sh_t7 (i := 60) (by decide +kernel) (by decide +kernel)
theorem ml_X13_134 : Cond.methodLink RX13 134 yX13_placeOf ∈ sh_ws := sh_t7 (i := 64) (by decide +kernel) (by decide +kernel)
theorem ml_X13_230 : Cond.methodLink RX13 230 yX13_puts ∈ sh_ws := sh_t7 (i := 68) (by decide +kernel) (by decide +kernel)
theorem ml_X13_218 : Cond.methodLink RX13 218 yX13_needs ∈ sh_ws := sh_t7 (i := 72) (by decide +kernel) (by decide +kernel)
theorem ml_X13_171 : Cond.methodLink RX13 171 yX13_emptySlot ∈ sh_ws := sh_t7 (i := 76) (by decide +kernel) (by decide +kernel)
theorem ml_X13_174 : Cond.methodLink RX13 174 yX13_aboveOf ∈ sh_ws := sh_t7 (i := 80) (by decide +kernel) (by decide +kernel)
theorem ml_X13_180 : Cond.methodLink RX13 180 yX13_lays ∈ sh_ws := sh_t7 (i := 84) (by decide +kernel) (by decide +kernel)
theorem ml_X13_222 : Cond.methodLink RX13 222 yX13_splits ∈ sh_ws := sh_t7 (i := 88) (by decide +kernel) (by decide +kernel)
theorem ml_X13_210 : Cond.methodLink RX13 210 yX13_sorts ∈ sh_ws := sh_t7 (i := 92) (by decide +kernel) (by decide +kernel)
theorem ml_X13_204 : Cond.methodLink RX13 204 yX13_takesBlock ∈ sh_ws := sh_t7 (i := 96) (by decide +kernel) (by decide +kernel)
theorem ml_X13_214 : Cond.methodLink RX13 214 yX13_fills ∈ sh_ws := sh_t7 (i := 100) (by decide +kernel) (by decide +kernel)
theorem ml_X13_191 : Cond.methodLink RX13 191 yX13_empties ∈ sh_ws := sh_t7 (i := 104) (by decide +kernel) (by decide +kernel)
theorem ml_X13_207 : Cond.methodLink RX13 207 yX13_comesBehind ∈ sh_ws := sh_t7 (i := 108) (by decide +kernel) (by decide +kernel)
theorem ml_X13_194 : Cond.methodLink RX13 194 yX13_rowOf ∈ sh_ws := sh_t7 (i := 112) (by decide +kernel) (by decide +kernel)
theorem ml_X13_197 : Cond.methodLink RX13 197 yX13_copiesRow ∈ sh_ws := sh_t7 (i := 116) (by decide +kernel) (by decide +kernel)
theorem ml_X13_184 : Cond.methodLink RX13 184 yX13_laysRow ∈ sh_ws := sh_t7 (i := 120) (by decide +kernel) (by decide +kernel)
theorem ml_X13_201 : Cond.methodLink RX13 201 yX13_parts ∈ sh_ws := sh_t7 (i := 124) (by decide +kernel) (by decide +kernel)
theorem ml_X13_313 : Cond.methodLink RX13 313 yX13_cut0 ∈ sh_ws := sh_t7 (i := 129) (by decide +kernel) (by decide +kernel)
theorem ml_X13_318 : Cond.methodLink RX13 318 yX13_turn0 ∈ sh_ws := sh_t7 (i := 134) (by decide +kernel) (by decide +kernel)
theorem ml_X13_324 : Cond.methodLink RX13 324 yX13_tune0 ∈ sh_ws := sh_t7 (i := 139) (by decide +kernel) (by decide +kernel)
theorem ml_X13_248 : Cond.methodLink RX13 248 yX13_build0 ∈ sh_ws := sh_t7 (i := 143) (by decide +kernel) (by decide +kernel)
theorem ml_X13_233 : Cond.methodLink RX13 233 yX13_sortsAll ∈ sh_ws := sh_t7 (i := 147) (by decide +kernel) (by decide +kernel)
theorem ml_X13_236 : Cond.methodLink RX13 236 yX13_leavesFor ∈ sh_ws := sh_t7 (i := 151) (by decide +kernel) (by decide +kernel)
theorem ml_X13_239 : Cond.methodLink RX13 239 yX13_areTwoOne ∈ sh_ws := sh_t7 (i := 154) (by decide +kernel) (by decide +kernel)
theorem ml_X13_242 : Cond.methodLink RX13 242 yX13_limitOf ∈ sh_ws := sh_t7 (i := 158) (by decide +kernel) (by decide +kernel)
theorem ml_X13_245 : Cond.methodLink RX13 245 yX13_markOf ∈ sh_ws := sh_t7 (i := 162) (by decide +kernel) (by decide +kernel)
theorem ml_X13_335 : Cond.methodLink RX13 335 yX13_tear0 ∈ sh_ws := sh_t7 (i := 170) (by decide +kernel) (by decide +kernel)
theorem ml_X13_352 : Cond.methodLink RX13 352 yX13_comesBack ∈ sh_ws := sh_t7 (i := 175) (by decide +kernel) (by decide +kernel)
theorem ml_X13_362 : Cond.methodLink RX13 362 yX13_isName ∈ sh_ws := sh_t7 (i := 191) (by decide +kernel) (by decide +kernel)
theorem ml_X13_366 : Cond.methodLink RX13 366 yX13_isDone ∈ sh_ws := sh_t7 (i := 195) (by decide +kernel) (by decide +kernel)
theorem ml_X13_257 : Cond.methodLink RX13 257 yX13_remembers ∈ sh_ws := sh_t7 (i := 199) (by decide +kernel) (by decide +kernel)
theorem ml_X13_369 : Cond.methodLink RX13 369 yX13_isBlock ∈ sh_ws := sh_t7 (i := 223) (by decide +kernel) (by decide +kernel)
theorem ml_X13_375 : Cond.methodLink RX13 375 yX13_meets ∈ sh_ws := sh_t7 (i := 234) (by decide +kernel) (by decide +kernel)
theorem ml_X13_378 : Cond.methodLink RX13 378 yX13_room ∈ sh_ws := sh_t7 (i := 238) (by decide +kernel) (by decide +kernel)
theorem ml_X13_372 : Cond.methodLink RX13 372 yX13_entries ∈ sh_ws := sh_t8 (i := 2) (by decide +kernel) (by decide +kernel)
theorem ml_X13_381 : Cond.methodLink RX13 381 yX13_needsOf ∈ sh_ws := sh_t8 (i := 6) (by decide +kernel) (by decide +kernel)
theorem ml_X13_384 : Cond.methodLink RX13 384 yX13_mate ∈ sh_ws := sh_t8 (i := 10) (by decide +kernel) (by decide +kernel)
theorem ml_X13_387 : Cond.methodLink RX13 387 yX13_blockOn ∈ sh_ws := sh_t8 (i := 18) (by decide +kernel) (by decide +kernel)
theorem ml_X13_390 : Cond.methodLink RX13 390 yX13_isPlace ∈ sh_ws := sh_t8 (i := 30) (by decide +kernel) (by decide +kernel)
theorem ml_X13_393 : Cond.methodLink RX13 393 yX13_hasEntry ∈ sh_ws := sh_t8 (i := 33) (by decide +kernel) (by decide +kernel)
theorem ml_X13_399 : Cond.methodLink RX13 399 yX13_crowdBy ∈ sh_ws := sh_t8 (i := 53) (by decide +kernel) (by decide +kernel)
theorem ml_X13_396 : Cond.methodLink RX13 396 yX13_greater ∈ sh_ws := sh_t8 (i := 57) (by decide +kernel) (by decide +kernel)
theorem ml_X13_402 : Cond.methodLink RX13 402 yX13_chain ∈ sh_ws := sh_t8 (i := 60) (by decide +kernel) (by decide +kernel)
theorem ml_X13_405 : Cond.methodLink RX13 405 yX13_allEntries ∈ sh_ws := sh_t8 (i := 64) (by decide +kernel) (by decide +kernel)
theorem ml_X13_408 : Cond.methodLink RX13 408 yX13_leafBy ∈ sh_ws := sh_t8 (i := 68) (by decide +kernel) (by decide +kernel)
theorem ml_X13_412 : Cond.methodLink RX13 412 yX13_strays ∈ sh_ws := sh_t8 (i := 72) (by decide +kernel) (by decide +kernel)
theorem ml_X13_415 : Cond.methodLink RX13 415 yX13_fullest ∈ sh_ws := sh_t8 (i := 76) (by decide +kernel) (by decide +kernel)
theorem ml_X13_418 : Cond.methodLink RX13 418 yX13_empty ∈ sh_ws := sh_t8 (i := 80) (by decide +kernel) (by decide +kernel)
theorem ml_X13_421 : Cond.methodLink RX13 421 yX13_isReader ∈ sh_ws := sh_t8 (i := 96) (by decide +kernel) (by decide +kernel)
theorem mb_min : Cond.static Lib.Math.min.name ∈ sh_ws ∧ Cond.initialized "java/lang/Math" ∈ sh_ws ∧ Cond.code Lib.Math.min.name Lib.Math.min.code 2 (some .int) ∈ sh_ws := ⟨sh_t3 (i := 169) (by decide +kernel) (by decide +kernel), sh_t1 (i := 21) (by decide +kernel) (by decide +kernel), sh_t3 (i := 170) (by decide +kernel) (by decide +kernel)⟩
theorem mb_max : Cond.static Lib.Math.max.name ∈ sh_ws ∧ Cond.initialized "java/lang/Math" ∈ sh_ws ∧ Cond.code Lib.Math.max.name Lib.Math.max.code 2 (some .int) ∈ sh_ws := ⟨sh_t5 (i := 174) (by decide +kernel) (by decide +kernel), sh_t1 (i := 21) (by decide +kernel) (by decide +kernel), sh_t5 (i := 175) (by decide +kernel) (by decide +kernel)⟩
theorem yy_X1_takesNumber : sh_Y yX1_takesNumber cX1_takesNumber 1 (some .boolean) 0 := ⟨sh_t1 (i := 5) (by decide +kernel) (by decide +kernel), sh_t3 (i := 100) (by decide +kernel) (by decide +kernel), by decide, by decide +kernel⟩
theorem yv_X1_takesNumber : sh_YV yX1_takesNumber := ⟨sh_t3 (i := 98) (by decide +kernel) (by decide +kernel), sh_t3 (i := 99) (by decide +kernel) (by decide +kernel)⟩
theorem yy_X2_init : sh_Y yX2_init cX2_init 1 none 0 := ⟨sh_t1 (i := 13) (by decide +kernel) (by decide +kernel), sh_t2 (i := 100) (by decide +kernel) (by decide +kernel), by decide, by decide +kernel⟩
theorem yy_X2_restart : sh_Y yX2_restart cX2_restart 1 none 0 := ⟨sh_t1 (i := 13) (by decide +kernel) (by decide +kernel), sh_t6 (i := 4) (by decide +kernel) (by decide +kernel), by decide, by decide +kernel⟩
theorem yv_X2_restart : sh_YV yX2_restart := ⟨sh_t6 (i := 2) (by decide +kernel) (by decide +kernel), sh_t6 (i := 3) (by decide +kernel) (by decide +kernel)⟩
theorem yy_X2_take : sh_Y yX2_take cX2_take 4 none 2 := ⟨sh_t1 (i := 13) (by decide +kernel) (by decide +kernel), sh_t6 (i := 24) (by decide +kernel) (by decide +kernel), by decide, by decide +kernel⟩
theorem yv_X2_take : sh_YV yX2_take := ⟨sh_t6 (i := 22) (by decide +kernel) (by decide +kernel), sh_t6 (i := 23) (by decide +kernel) (by decide +kernel)⟩
theorem yy_X3_init : sh_Y yX3_init cX3_init 2 none 0 := ⟨sh_t1 (i := 7) (by decide +kernel) (by decide +kernel), sh_t1 (i := 188) (by decide +kernel) (by decide +kernel), by decide, by decide +kernel⟩
theorem yy_X3_remember : sh_Y yX3_remember cX3_remember 2 none 1 := ⟨sh_t1 (i := 7) (by decide +kernel) (by decide +kernel), sh_t4 (i := 200) (by decide +kernel) (by decide +kernel), by decide, by decide +kernel⟩
theorem yv_X3_remember : sh_YV yX3_remember := ⟨sh_t4 (i := 198) (by decide +kernel) (by decide +kernel), sh_t4 (i := 199) (by decide +kernel) (by decide +kernel)⟩
theorem yy_X3_takeBack : sh_Y yX3_takeBack cX3_takeBack 2 none 1 := ⟨sh_t1 (i := 7) (by decide +kernel) (by decide +kernel), sh_t5 (i := 61) (by decide +kernel) (by decide +kernel), by decide, by decide +kernel⟩
theorem yv_X3_takeBack : sh_YV yX3_takeBack := ⟨sh_t5 (i := 59) (by decide +kernel) (by decide +kernel), sh_t5 (i := 60) (by decide +kernel) (by decide +kernel)⟩
theorem yy_X3_forget : sh_Y yX3_forget cX3_forget 1 none 0 := ⟨sh_t1 (i := 7) (by decide +kernel) (by decide +kernel), sh_t2 (i := 207) (by decide +kernel) (by decide +kernel), by decide, by decide +kernel⟩
theorem yv_X3_forget : sh_YV yX3_forget := ⟨sh_t2 (i := 205) (by decide +kernel) (by decide +kernel), sh_t2 (i := 206) (by decide +kernel) (by decide +kernel)⟩
theorem yy_X4_init : sh_Y yX4_init cX4_init 2 none 1 := ⟨sh_t1 (i := 8) (by decide +kernel) (by decide +kernel), sh_t1 (i := 208) (by decide +kernel) (by decide +kernel), by decide, by decide +kernel⟩
theorem yy_X4_trace : sh_Y yX4_trace cX4_trace 2 none 1 := ⟨sh_t1 (i := 8) (by decide +kernel) (by decide +kernel), sh_t3 (i := 162) (by decide +kernel) (by decide +kernel), by decide, by decide +kernel⟩
theorem yv_X4_trace : sh_YV yX4_trace := ⟨sh_t3 (i := 160) (by decide +kernel) (by decide +kernel), sh_t3 (i := 161) (by decide +kernel) (by decide +kernel)⟩
theorem yy_X4_look : sh_Y yX4_look cX4_look 5 (some .int) 1 := ⟨sh_t1 (i := 8) (by decide +kernel) (by decide +kernel), sh_t3 (i := 131) (by decide +kernel) (by decide +kernel), by decide, by decide +kernel⟩
theorem yv_X4_look : sh_YV yX4_look := ⟨sh_t3 (i := 129) (by decide +kernel) (by decide +kernel), sh_t3 (i := 130) (by decide +kernel) (by decide +kernel)⟩
theorem yy_X4_lookEverywhere : sh_Y yX4_lookEverywhere cX4_lookEverywhere 5 (some .int) 1 := ⟨sh_t1 (i := 8) (by decide +kernel) (by decide +kernel), sh_t3 (i := 136) (by decide +kernel) (by decide +kernel), by decide, by decide +kernel⟩
theorem yv_X4_lookEverywhere : sh_YV yX4_lookEverywhere := ⟨sh_t3 (i := 135) (by decide +kernel) (by decide +kernel), sh_pin (q := (yX4_lookEverywhere, 5)) (i := 8) (by decide +kernel) (by decide +kernel)⟩
theorem yy_X4_lookInto : sh_Y yX4_lookInto cX4_lookInto 5 (some .int) 2 := ⟨sh_t1 (i := 8) (by decide +kernel) (by decide +kernel), sh_t3 (i := 140) (by decide +kernel) (by decide +kernel), by decide, by decide +kernel⟩
theorem yv_X4_lookInto : sh_YV yX4_lookInto := ⟨sh_t3 (i := 139) (by decide +kernel) (by decide +kernel), sh_pin (q := (yX4_lookInto, 5)) (i := 9) (by decide +kernel) (by decide +kernel)⟩
theorem yy_X4_whereabouts : sh_Y yX4_whereabouts cX4_whereabouts 5 (some .int) 2 := ⟨sh_t1 (i := 8) (by decide +kernel) (by decide +kernel), sh_t5 (i := 72) (by decide +kernel) (by decide +kernel), by decide, by decide +kernel⟩
theorem yv_X4_whereabouts : sh_YV yX4_whereabouts := ⟨sh_t5 (i := 70) (by decide +kernel) (by decide +kernel), sh_t5 (i := 71) (by decide +kernel) (by decide +kernel)⟩
theorem yy_X4_refusalOf : sh_Y yX4_refusalOf cX4_refusalOf 7 (some .int) 4 := ⟨sh_t1 (i := 8) (by decide +kernel) (by decide +kernel), sh_t3 (i := 115) (by decide +kernel) (by decide +kernel), by decide, by decide +kernel⟩
theorem yv_X4_refusalOf : sh_YV yX4_refusalOf := ⟨sh_t3 (i := 113) (by decide +kernel) (by decide +kernel), sh_t3 (i := 114) (by decide +kernel) (by decide +kernel)⟩
theorem yy_X4_refusalOfPut : sh_Y yX4_refusalOfPut cX4_refusalOfPut 3 (some .int) 1 := ⟨sh_t1 (i := 8) (by decide +kernel) (by decide +kernel), sh_t3 (i := 127) (by decide +kernel) (by decide +kernel), by decide, by decide +kernel⟩
theorem yv_X4_refusalOfPut : sh_YV yX4_refusalOfPut := ⟨sh_t3 (i := 125) (by decide +kernel) (by decide +kernel), sh_t3 (i := 126) (by decide +kernel) (by decide +kernel)⟩
theorem yy_X4_refusalOfTurn : sh_Y yX4_refusalOfTurn cX4_refusalOfTurn 10 (some .int) 2 := ⟨sh_t1 (i := 8) (by decide +kernel) (by decide +kernel), sh_t3 (i := 200) (by decide +kernel) (by decide +kernel), by decide, by decide +kernel⟩
theorem yv_X4_refusalOfTurn : sh_YV yX4_refusalOfTurn := ⟨sh_t3 (i := 199) (by decide +kernel) (by decide +kernel), sh_pin (q := (yX4_refusalOfTurn, 5)) (i := 11) (by decide +kernel) (by decide +kernel)⟩
theorem yy_X4_isTooMuchToBuild : sh_Y yX4_isTooMuchToBuild cX4_isTooMuchToBuild 1 (some .boolean) 0 := ⟨sh_t1 (i := 8) (by decide +kernel) (by decide +kernel), sh_t3 (i := 204) (by decide +kernel) (by decide +kernel), by decide, by decide +kernel⟩
theorem yv_X4_isTooMuchToBuild : sh_YV yX4_isTooMuchToBuild := ⟨sh_t3 (i := 203) (by decide +kernel) (by decide +kernel), sh_pin (q := (yX4_isTooMuchToBuild, 5)) (i := 12) (by decide +kernel) (by decide +kernel)⟩
theorem yy_X4_wouldFoldMeet : sh_Y yX4_wouldFoldMeet cX4_wouldFoldMeet 2 (some .boolean) 0 := ⟨sh_t1 (i := 8) (by decide +kernel) (by decide +kernel), sh_t3 (i := 209) (by decide +kernel) (by decide +kernel), by decide, by decide +kernel⟩
theorem yv_X4_wouldFoldMeet : sh_YV yX4_wouldFoldMeet := ⟨sh_t3 (i := 208) (by decide +kernel) (by decide +kernel), sh_pin (q := (yX4_wouldFoldMeet, 5)) (i := 13) (by decide +kernel) (by decide +kernel)⟩
theorem yy_X4_blocksFor : sh_Y yX4_blocksFor cX4_blocksFor 3 (some .int) 1 := ⟨sh_t1 (i := 8) (by decide +kernel) (by decide +kernel), sh_t3 (i := 184) (by decide +kernel) (by decide +kernel), by decide, by decide +kernel⟩
theorem yv_X4_blocksFor : sh_YV yX4_blocksFor := ⟨sh_t3 (i := 182) (by decide +kernel) (by decide +kernel), sh_t3 (i := 183) (by decide +kernel) (by decide +kernel)⟩
theorem yy_X4_spotOnWay : sh_Y yX4_spotOnWay cX4_spotOnWay 3 (some .int) 0 := ⟨sh_t1 (i := 8) (by decide +kernel) (by decide +kernel), sh_t3 (i := 188) (by decide +kernel) (by decide +kernel), by decide, by decide +kernel⟩
theorem yv_X4_spotOnWay : sh_YV yX4_spotOnWay := ⟨sh_t3 (i := 187) (by decide +kernel) (by decide +kernel), sh_pin (q := (yX4_spotOnWay, 5)) (i := 10) (by decide +kernel) (by decide +kernel)⟩
theorem yy_X4_carryOut : sh_Y yX4_carryOut cX4_carryOut 9 (some .int) 4 := ⟨sh_t1 (i := 8) (by decide +kernel) (by decide +kernel), sh_t3 (i := 223) (by decide +kernel) (by decide +kernel), by decide, by decide +kernel⟩
theorem yv_X4_carryOut : sh_YV yX4_carryOut := ⟨sh_t3 (i := 221) (by decide +kernel) (by decide +kernel), sh_t3 (i := 222) (by decide +kernel) (by decide +kernel)⟩
theorem yy_X4_retune : sh_Y yX4_retune cX4_retune 4 (some .int) 2 := ⟨sh_t1 (i := 8) (by decide +kernel) (by decide +kernel), sh_t4 (i := 71) (by decide +kernel) (by decide +kernel), by decide, by decide +kernel⟩
theorem yv_X4_retune : sh_YV yX4_retune := ⟨sh_t4 (i := 70) (by decide +kernel) (by decide +kernel), sh_pin (q := (yX4_retune, 5)) (i := 24) (by decide +kernel) (by decide +kernel)⟩
theorem yy_X4_removeEntry : sh_Y yX4_removeEntry cX4_removeEntry 4 (some .int) 1 := ⟨sh_t1 (i := 8) (by decide +kernel) (by decide +kernel), sh_t4 (i := 42) (by decide +kernel) (by decide +kernel), by decide, by decide +kernel⟩
theorem yv_X4_removeEntry : sh_YV yX4_removeEntry := ⟨sh_t4 (i := 41) (by decide +kernel) (by decide +kernel), sh_pin (q := (yX4_removeEntry, 5)) (i := 19) (by decide +kernel) (by decide +kernel)⟩
theorem yy_X4_placeEntry : sh_Y yX4_placeEntry cX4_placeEntry 7 (some .int) 2 := ⟨sh_t1 (i := 8) (by decide +kernel) (by decide +kernel), sh_t3 (i := 227) (by decide +kernel) (by decide +kernel), by decide, by decide +kernel⟩
theorem yv_X4_placeEntry : sh_YV yX4_placeEntry := ⟨sh_t3 (i := 226) (by decide +kernel) (by decide +kernel), sh_pin (q := (yX4_placeEntry, 5)) (i := 15) (by decide +kernel) (by decide +kernel)⟩
theorem yy_X4_poolOfLeaf : sh_Y yX4_poolOfLeaf cX4_poolOfLeaf 3 none 1 := ⟨sh_t1 (i := 8) (by decide +kernel) (by decide +kernel), sh_t3 (i := 239) (by decide +kernel) (by decide +kernel), by decide, by decide +kernel⟩
theorem yv_X4_poolOfLeaf : sh_YV yX4_poolOfLeaf := ⟨sh_t3 (i := 238) (by decide +kernel) (by decide +kernel), sh_pin (q := (yX4_poolOfLeaf, 5)) (i := 16) (by decide +kernel) (by decide +kernel)⟩
theorem yy_X4_splitLeaf : sh_Y yX4_splitLeaf cX4_splitLeaf 5 none 0 := ⟨sh_t1 (i := 8) (by decide +kernel) (by decide +kernel), sh_t4 (i := 3) (by decide +kernel) (by decide +kernel), by decide, by decide +kernel⟩
theorem yv_X4_splitLeaf : sh_YV yX4_splitLeaf := ⟨sh_t4 (i := 2) (by decide +kernel) (by decide +kernel), sh_pin (q := (yX4_splitLeaf, 5)) (i := 17) (by decide +kernel) (by decide +kernel)⟩
theorem yy_X4_splitIndex : sh_Y yX4_splitIndex cX4_splitIndex 6 none 0 := ⟨sh_t1 (i := 8) (by decide +kernel) (by decide +kernel), sh_t4 (i := 34) (by decide +kernel) (by decide +kernel), by decide, by decide +kernel⟩
theorem yv_X4_splitIndex : sh_YV yX4_splitIndex := ⟨sh_t4 (i := 33) (by decide +kernel) (by decide +kernel), sh_pin (q := (yX4_splitIndex, 5)) (i := 18) (by decide +kernel) (by decide +kernel)⟩
theorem yy_X4_poolOfHash : sh_Y yX4_poolOfHash cX4_poolOfHash 3 none 1 := ⟨sh_t1 (i := 8) (by decide +kernel) (by decide +kernel), sh_t6 (i := 20) (by decide +kernel) (by decide +kernel), by decide, by decide +kernel⟩
theorem yv_X4_poolOfHash : sh_YV yX4_poolOfHash := ⟨sh_t6 (i := 18) (by decide +kernel) (by decide +kernel), sh_t6 (i := 19) (by decide +kernel) (by decide +kernel)⟩
theorem yy_X4_layAnew : sh_Y yX4_layAnew cX4_layAnew 3 none 0 := ⟨sh_t1 (i := 8) (by decide +kernel) (by decide +kernel), sh_t4 (i := 46) (by decide +kernel) (by decide +kernel), by decide, by decide +kernel⟩
theorem yv_X4_layAnew : sh_YV yX4_layAnew := ⟨sh_t4 (i := 45) (by decide +kernel) (by decide +kernel), sh_pin (q := (yX4_layAnew, 5)) (i := 20) (by decide +kernel) (by decide +kernel)⟩
theorem yy_X4_layIndexes : sh_Y yX4_layIndexes cX4_layIndexes 6 none 1 := ⟨sh_t1 (i := 8) (by decide +kernel) (by decide +kernel), sh_t4 (i := 57) (by decide +kernel) (by decide +kernel), by decide, by decide +kernel⟩
theorem yv_X4_layIndexes : sh_YV yX4_layIndexes := ⟨sh_t4 (i := 56) (by decide +kernel) (by decide +kernel), sh_pin (q := (yX4_layIndexes, 5)) (i := 21) (by decide +kernel) (by decide +kernel)⟩
theorem yy_X4_layRows : sh_Y yX4_layRows cX4_layRows 5 none 3 := ⟨sh_t1 (i := 8) (by decide +kernel) (by decide +kernel), sh_t4 (i := 61) (by decide +kernel) (by decide +kernel), by decide, by decide +kernel⟩
theorem yv_X4_layRows : sh_YV yX4_layRows := ⟨sh_t4 (i := 60) (by decide +kernel) (by decide +kernel), sh_pin (q := (yX4_layRows, 5)) (i := 22) (by decide +kernel) (by decide +kernel)⟩
theorem yy_X4_limitOfLaid : sh_Y yX4_limitOfLaid cX4_limitOfLaid 2 (some .int) 1 := ⟨sh_t1 (i := 8) (by decide +kernel) (by decide +kernel), sh_t4 (i := 65) (by decide +kernel) (by decide +kernel), by decide, by decide +kernel⟩
theorem yv_X4_limitOfLaid : sh_YV yX4_limitOfLaid := ⟨sh_t4 (i := 64) (by decide +kernel) (by decide +kernel), sh_pin (q := (yX4_limitOfLaid, 5)) (i := 23) (by decide +kernel) (by decide +kernel)⟩
theorem yy_X5_init : sh_Y yX5_init cX5_init 1 none 0 := ⟨sh_t1 (i := 9) (by decide +kernel) (by decide +kernel), sh_t1 (i := 214) (by decide +kernel) (by decide +kernel), by decide, by decide +kernel⟩
theorem yy_X5_gather : sh_Y yX5_gather cX5_gather 3 none 1 := ⟨sh_t1 (i := 9) (by decide +kernel) (by decide +kernel), sh_t2 (i := 184) (by decide +kernel) (by decide +kernel), by decide, by decide +kernel⟩
theorem yv_X5_gather : sh_YV yX5_gather := ⟨sh_t2 (i := 182) (by decide +kernel) (by decide +kernel), sh_t2 (i := 183) (by decide +kernel) (by decide +kernel)⟩
theorem yy_X5_placeOf : sh_Y yX5_placeOf cX5_placeOf 4 (some .int) 1 := ⟨sh_t1 (i := 9) (by decide +kernel) (by decide +kernel), sh_t3 (i := 177) (by decide +kernel) (by decide +kernel), by decide, by decide +kernel⟩
theorem yv_X5_placeOf : sh_YV yX5_placeOf := ⟨sh_t3 (i := 175) (by decide +kernel) (by decide +kernel), sh_t3 (i := 176) (by decide +kernel) (by decide +kernel)⟩
theorem yy_X5_addRowsOf : sh_Y yX5_addRowsOf cX5_addRowsOf 5 none 2 := ⟨sh_t1 (i := 9) (by decide +kernel) (by decide +kernel), sh_t2 (i := 188) (by decide +kernel) (by decide +kernel), by decide, by decide +kernel⟩
theorem yv_X5_addRowsOf : sh_YV yX5_addRowsOf := ⟨sh_t2 (i := 187) (by decide +kernel) (by decide +kernel), sh_pin (q := (yX5_addRowsOf, 4)) (i := 0) (by decide +kernel) (by decide +kernel)⟩
theorem yy_X6_init : sh_Y yX6_init cX6_init 1 none 0 := ⟨sh_t1 (i := 11) (by decide +kernel) (by decide +kernel), sh_t2 (i := 27) (by decide +kernel) (by decide +kernel), by decide, by decide +kernel⟩
theorem yy_X6_add : sh_Y yX6_add cX6_add 7 none 3 := ⟨sh_t1 (i := 11) (by decide +kernel) (by decide +kernel), sh_t3 (i := 214) (by decide +kernel) (by decide +kernel), by decide, by decide +kernel⟩
theorem yv_X6_add : sh_YV yX6_add := ⟨sh_t3 (i := 212) (by decide +kernel) (by decide +kernel), sh_t3 (i := 213) (by decide +kernel) (by decide +kernel)⟩
theorem yy_X6_markAt : sh_Y yX6_markAt cX6_markAt 2 (some .int) 1 := ⟨sh_t1 (i := 11) (by decide +kernel) (by decide +kernel), sh_t4 (i := 7) (by decide +kernel) (by decide +kernel), by decide, by decide +kernel⟩
theorem yv_X6_markAt : sh_YV yX6_markAt := ⟨sh_t4 (i := 5) (by decide +kernel) (by decide +kernel), sh_t4 (i := 6) (by decide +kernel) (by decide +kernel)⟩
theorem yy_X6_isAhead : sh_Y yX6_isAhead cX6_isAhead 5 (some .boolean) 3 := ⟨sh_t1 (i := 11) (by decide +kernel) (by decide +kernel), sh_t3 (i := 218) (by decide +kernel) (by decide +kernel), by decide, by decide +kernel⟩
theorem yv_X6_isAhead : sh_YV yX6_isAhead := ⟨sh_t3 (i := 217) (by decide +kernel) (by decide +kernel), sh_pin (q := (yX6_isAhead, 4)) (i := 14) (by decide +kernel) (by decide +kernel)⟩
theorem yy_X7_init : sh_Y yX7_init cX7_init 1 none 0 := ⟨sh_t1 (i := 6) (by decide +kernel) (by decide +kernel), sh_t1 (i := 100) (by decide +kernel) (by decide +kernel), by decide, by decide +kernel⟩
theorem yy_X7_copyFrom : sh_Y yX7_copyFrom cX7_copyFrom 2 none 1 := ⟨sh_t1 (i := 6) (by decide +kernel) (by decide +kernel), sh_t2 (i := 196) (by decide +kernel) (by decide +kernel), by decide, by decide +kernel⟩
theorem yv_X7_copyFrom : sh_YV yX7_copyFrom := ⟨sh_t2 (i := 194) (by decide +kernel) (by decide +kernel), sh_t2 (i := 195) (by decide +kernel) (by decide +kernel)⟩
theorem yy_X7_hashOf : sh_Y yX7_hashOf cX7_hashOf 3 (some .int) 1 := ⟨sh_t1 (i := 6) (by decide +kernel) (by decide +kernel), sh_t3 (i := 148) (by decide +kernel) (by decide +kernel), by decide, by decide +kernel⟩
theorem yv_X7_hashOf : sh_YV yX7_hashOf := ⟨sh_t3 (i := 146) (by decide +kernel) (by decide +kernel), sh_t3 (i := 147) (by decide +kernel) (by decide +kernel)⟩
theorem yy_X7_entriesIn : sh_Y yX7_entriesIn cX7_entriesIn 4 (some .int) 1 := ⟨sh_t1 (i := 6) (by decide +kernel) (by decide +kernel), sh_t5 (i := 90) (by decide +kernel) (by decide +kernel), by decide, by decide +kernel⟩
theorem yv_X7_entriesIn : sh_YV yX7_entriesIn := ⟨sh_t5 (i := 88) (by decide +kernel) (by decide +kernel), sh_t5 (i := 89) (by decide +kernel) (by decide +kernel)⟩
theorem yy_X7_entriesInAll : sh_Y yX7_entriesInAll cX7_entriesInAll 3 (some .int) 0 := ⟨sh_t1 (i := 6) (by decide +kernel) (by decide +kernel), sh_t2 (i := 219) (by decide +kernel) (by decide +kernel), by decide, by decide +kernel⟩
theorem yv_X7_entriesInAll : sh_YV yX7_entriesInAll := ⟨sh_t2 (i := 217) (by decide +kernel) (by decide +kernel), sh_t2 (i := 218) (by decide +kernel) (by decide +kernel)⟩
theorem yy_X7_entriesOfHash : sh_Y yX7_entriesOfHash cX7_entriesOfHash 4 (some .int) 1 := ⟨sh_t1 (i := 6) (by decide +kernel) (by decide +kernel), sh_t5 (i := 81) (by decide +kernel) (by decide +kernel), by decide, by decide +kernel⟩
theorem yv_X7_entriesOfHash : sh_YV yX7_entriesOfHash := ⟨sh_t5 (i := 79) (by decide +kernel) (by decide +kernel), sh_t5 (i := 80) (by decide +kernel) (by decide +kernel)⟩
theorem yy_X7_leastHashFrom : sh_Y yX7_leastHashFrom cX7_leastHashFrom 5 (some .int) 1 := ⟨sh_t1 (i := 6) (by decide +kernel) (by decide +kernel), sh_t6 (i := 16) (by decide +kernel) (by decide +kernel), by decide, by decide +kernel⟩
theorem yv_X7_leastHashFrom : sh_YV yX7_leastHashFrom := ⟨sh_t6 (i := 14) (by decide +kernel) (by decide +kernel), sh_t6 (i := 15) (by decide +kernel) (by decide +kernel)⟩
theorem yy_X7_blocksOfKind : sh_Y yX7_blocksOfKind cX7_blocksOfKind 4 (some .int) 1 := ⟨sh_t1 (i := 6) (by decide +kernel) (by decide +kernel), sh_t2 (i := 223) (by decide +kernel) (by decide +kernel), by decide, by decide +kernel⟩
theorem yv_X7_blocksOfKind : sh_YV yX7_blocksOfKind := ⟨sh_t2 (i := 221) (by decide +kernel) (by decide +kernel), sh_t2 (i := 222) (by decide +kernel) (by decide +kernel)⟩
theorem yy_X7_tornIndexes : sh_Y yX7_tornIndexes cX7_tornIndexes 3 (some .int) 0 := ⟨sh_t1 (i := 6) (by decide +kernel) (by decide +kernel), sh_t2 (i := 227) (by decide +kernel) (by decide +kernel), by decide, by decide +kernel⟩
theorem yv_X7_tornIndexes : sh_YV yX7_tornIndexes := ⟨sh_t2 (i := 225) (by decide +kernel) (by decide +kernel), sh_t2 (i := 226) (by decide +kernel) (by decide +kernel)⟩
theorem yy_X7_emptySlotOf : sh_Y yX7_emptySlotOf cX7_emptySlotOf 3 (some .int) 1 := ⟨sh_t1 (i := 6) (by decide +kernel) (by decide +kernel), sh_t3 (i := 192) (by decide +kernel) (by decide +kernel), by decide, by decide +kernel⟩
theorem yv_X7_emptySlotOf : sh_YV yX7_emptySlotOf := ⟨sh_t3 (i := 190) (by decide +kernel) (by decide +kernel), sh_t3 (i := 191) (by decide +kernel) (by decide +kernel)⟩
theorem yy_X7_setEntry : sh_Y yX7_setEntry cX7_setEntry 6 none 4 := ⟨sh_t1 (i := 6) (by decide +kernel) (by decide +kernel), sh_t3 (i := 231) (by decide +kernel) (by decide +kernel), by decide, by decide +kernel⟩
theorem yv_X7_setEntry : sh_YV yX7_setEntry := ⟨sh_t3 (i := 229) (by decide +kernel) (by decide +kernel), sh_t3 (i := 230) (by decide +kernel) (by decide +kernel)⟩
theorem yy_X7_takeLeastFree : sh_Y yX7_takeLeastFree cX7_takeLeastFree 4 (some .int) 1 := ⟨sh_t1 (i := 6) (by decide +kernel) (by decide +kernel), sh_t4 (i := 11) (by decide +kernel) (by decide +kernel), by decide, by decide +kernel⟩
theorem yv_X7_takeLeastFree : sh_YV yX7_takeLeastFree := ⟨sh_t4 (i := 9) (by decide +kernel) (by decide +kernel), sh_t4 (i := 10) (by decide +kernel) (by decide +kernel)⟩
theorem yy_X7_freeAll : sh_Y yX7_freeAll cX7_freeAll 2 none 0 := ⟨sh_t1 (i := 6) (by decide +kernel) (by decide +kernel), sh_t4 (i := 50) (by decide +kernel) (by decide +kernel), by decide, by decide +kernel⟩
theorem yv_X7_freeAll : sh_YV yX7_freeAll := ⟨sh_t4 (i := 48) (by decide +kernel) (by decide +kernel), sh_t4 (i := 49) (by decide +kernel) (by decide +kernel)⟩
theorem yy_X7_layLeaf : sh_Y yX7_layLeaf cX7_layLeaf 7 none 4 := ⟨sh_t1 (i := 6) (by decide +kernel) (by decide +kernel), sh_t4 (i := 15) (by decide +kernel) (by decide +kernel), by decide, by decide +kernel⟩
theorem yv_X7_layLeaf : sh_YV yX7_layLeaf := ⟨sh_t4 (i := 13) (by decide +kernel) (by decide +kernel), sh_t4 (i := 14) (by decide +kernel) (by decide +kernel)⟩
theorem yy_X7_insertRow : sh_Y yX7_insertRow cX7_insertRow 8 none 5 := ⟨sh_t1 (i := 6) (by decide +kernel) (by decide +kernel), sh_t4 (i := 24) (by decide +kernel) (by decide +kernel), by decide, by decide +kernel⟩
theorem yv_X7_insertRow : sh_YV yX7_insertRow := ⟨sh_t4 (i := 22) (by decide +kernel) (by decide +kernel), sh_t4 (i := 23) (by decide +kernel) (by decide +kernel)⟩
theorem yy_X7_copyRow : sh_Y yX7_copyRow cX7_copyRow 3 none 2 := ⟨sh_t1 (i := 6) (by decide +kernel) (by decide +kernel), sh_t4 (i := 29) (by decide +kernel) (by decide +kernel), by decide, by decide +kernel⟩
theorem yv_X7_copyRow : sh_YV yX7_copyRow := ⟨sh_t4 (i := 27) (by decide +kernel) (by decide +kernel), sh_t4 (i := 28) (by decide +kernel) (by decide +kernel)⟩
theorem yy_X7_copyRows : sh_Y yX7_copyRows cX7_copyRows 6 none 4 := ⟨sh_t1 (i := 6) (by decide +kernel) (by decide +kernel), sh_t4 (i := 38) (by decide +kernel) (by decide +kernel), by decide, by decide +kernel⟩
theorem yv_X7_copyRows : sh_YV yX7_copyRows := ⟨sh_t4 (i := 36) (by decide +kernel) (by decide +kernel), sh_t4 (i := 37) (by decide +kernel) (by decide +kernel)⟩
theorem yy_X7_raiseRoot : sh_Y yX7_raiseRoot cX7_raiseRoot 6 none 4 := ⟨sh_t1 (i := 6) (by decide +kernel) (by decide +kernel), sh_t4 (i := 20) (by decide +kernel) (by decide +kernel), by decide, by decide +kernel⟩
theorem yv_X7_raiseRoot : sh_YV yX7_raiseRoot := ⟨sh_t4 (i := 18) (by decide +kernel) (by decide +kernel), sh_t4 (i := 19) (by decide +kernel) (by decide +kernel)⟩
theorem yy_X8_init : sh_Y yX8_init cX8_init 3 none 2 := ⟨sh_t1 (i := 12) (by decide +kernel) (by decide +kernel), sh_t2 (i := 77) (by decide +kernel) (by decide +kernel), by decide, by decide +kernel⟩
theorem yy_X8_ofName : sh_Y yX8_ofName cX8_ofName 5 (some .int) 2 := ⟨sh_t1 (i := 12) (by decide +kernel) (by decide +kernel), sh_t5 (i := 76) (by decide +kernel) (by decide +kernel), by decide, by decide +kernel⟩
theorem yv_X8_ofName : sh_YV yX8_ofName := ⟨sh_t5 (i := 74) (by decide +kernel) (by decide +kernel), sh_t5 (i := 75) (by decide +kernel) (by decide +kernel)⟩
theorem yy_X8_ofAll : sh_Y yX8_ofAll cX8_ofAll 2 (some .int) 1 := ⟨sh_t1 (i := 12) (by decide +kernel) (by decide +kernel), sh_t5 (i := 162) (by decide +kernel) (by decide +kernel), by decide, by decide +kernel⟩
theorem yv_X8_ofAll : sh_YV yX8_ofAll := ⟨sh_t5 (i := 160) (by decide +kernel) (by decide +kernel), sh_t5 (i := 161) (by decide +kernel) (by decide +kernel)⟩
theorem yy_X8_crowdBy : sh_Y yX8_crowdBy cX8_crowdBy 4 (some .int) 1 := ⟨sh_t1 (i := 12) (by decide +kernel) (by decide +kernel), sh_t5 (i := 167) (by decide +kernel) (by decide +kernel), by decide, by decide +kernel⟩
theorem yv_X8_crowdBy : sh_YV yX8_crowdBy := ⟨sh_t5 (i := 165) (by decide +kernel) (by decide +kernel), sh_t5 (i := 166) (by decide +kernel) (by decide +kernel)⟩
theorem yy_X8_tallyBy : sh_Y yX8_tallyBy cX8_tallyBy 4 none 1 := ⟨sh_t1 (i := 12) (by decide +kernel) (by decide +kernel), sh_t5 (i := 171) (by decide +kernel) (by decide +kernel), by decide, by decide +kernel⟩
theorem yv_X8_tallyBy : sh_YV yX8_tallyBy := ⟨sh_t5 (i := 170) (by decide +kernel) (by decide +kernel), sh_pin (q := (yX8_tallyBy, 5)) (i := 31) (by decide +kernel) (by decide +kernel)⟩
theorem yy_X8_leastCrowdedKey : sh_Y yX8_leastCrowdedKey cX8_leastCrowdedKey 7 (some .int) 2 := ⟨sh_t1 (i := 12) (by decide +kernel) (by decide +kernel), sh_t5 (i := 228) (by decide +kernel) (by decide +kernel), by decide, by decide +kernel⟩
theorem yv_X8_leastCrowdedKey : sh_YV yX8_leastCrowdedKey := ⟨sh_t5 (i := 226) (by decide +kernel) (by decide +kernel), sh_t5 (i := 227) (by decide +kernel) (by decide +kernel)⟩
theorem yy_X8_roomOnWay : sh_Y yX8_roomOnWay cX8_roomOnWay 5 (some .int) 1 := ⟨sh_t1 (i := 12) (by decide +kernel) (by decide +kernel), sh_t5 (i := 85) (by decide +kernel) (by decide +kernel), by decide, by decide +kernel⟩
theorem yv_X8_roomOnWay : sh_YV yX8_roomOnWay := ⟨sh_t5 (i := 84) (by decide +kernel) (by decide +kernel), sh_pin (q := (yX8_roomOnWay, 5)) (i := 29) (by decide +kernel) (by decide +kernel)⟩
theorem yy_X8_mateOf : sh_Y yX8_mateOf cX8_mateOf 7 (some .int) 1 := ⟨sh_t1 (i := 12) (by decide +kernel) (by decide +kernel), sh_t5 (i := 96) (by decide +kernel) (by decide +kernel), by decide, by decide +kernel⟩
theorem yv_X8_mateOf : sh_YV yX8_mateOf := ⟨sh_t5 (i := 95) (by decide +kernel) (by decide +kernel), sh_pin (q := (yX8_mateOf, 5)) (i := 30) (by decide +kernel) (by decide +kernel)⟩
theorem yy_X8_twoLetters : sh_Y yX8_twoLetters cX8_twoLetters 2 (some .long) 2 := ⟨sh_t1 (i := 12) (by decide +kernel) (by decide +kernel), sh_t5 (i := 100) (by decide +kernel) (by decide +kernel), by decide, by decide +kernel⟩
theorem ys_X8_twoLetters : Cond.static yX8_twoLetters ∈ sh_ws := sh_t5 (i := 99) (by decide +kernel) (by decide +kernel)
theorem yy_X8_longestChain : sh_Y yX8_longestChain cX8_longestChain 3 (some .int) 0 := ⟨sh_t1 (i := 12) (by decide +kernel) (by decide +kernel), sh_t5 (i := 179) (by decide +kernel) (by decide +kernel), by decide, by decide +kernel⟩
theorem yv_X8_longestChain : sh_YV yX8_longestChain := ⟨sh_t5 (i := 178) (by decide +kernel) (by decide +kernel), sh_pin (q := (yX8_longestChain, 5)) (i := 32) (by decide +kernel) (by decide +kernel)⟩
theorem yy_X8_fewestInLeaf : sh_Y yX8_fewestInLeaf cX8_fewestInLeaf 3 (some .int) 0 := ⟨sh_t1 (i := 12) (by decide +kernel) (by decide +kernel), sh_t5 (i := 186) (by decide +kernel) (by decide +kernel), by decide, by decide +kernel⟩
theorem yv_X8_fewestInLeaf : sh_YV yX8_fewestInLeaf := ⟨sh_t5 (i := 185) (by decide +kernel) (by decide +kernel), sh_pin (q := (yX8_fewestInLeaf, 5)) (i := 33) (by decide +kernel) (by decide +kernel)⟩
theorem yy_X8_fullestPlace : sh_Y yX8_fullestPlace cX8_fullestPlace 5 (some .int) 0 := ⟨sh_t1 (i := 12) (by decide +kernel) (by decide +kernel), sh_t5 (i := 191) (by decide +kernel) (by decide +kernel), by decide, by decide +kernel⟩
theorem yv_X8_fullestPlace : sh_YV yX8_fullestPlace := ⟨sh_t5 (i := 190) (by decide +kernel) (by decide +kernel), sh_pin (q := (yX8_fullestPlace, 5)) (i := 34) (by decide +kernel) (by decide +kernel)⟩
theorem yy_X8_entriesBehind : sh_Y yX8_entriesBehind cX8_entriesBehind 3 (some .int) 0 := ⟨sh_t1 (i := 12) (by decide +kernel) (by decide +kernel), sh_t5 (i := 195) (by decide +kernel) (by decide +kernel), by decide, by decide +kernel⟩
theorem yv_X8_entriesBehind : sh_YV yX8_entriesBehind := ⟨sh_t5 (i := 194) (by decide +kernel) (by decide +kernel), sh_pin (q := (yX8_entriesBehind, 5)) (i := 35) (by decide +kernel) (by decide +kernel)⟩
theorem yy_X8_widestIndex : sh_Y yX8_widestIndex cX8_widestIndex 4 (some .int) 0 := ⟨sh_t1 (i := 12) (by decide +kernel) (by decide +kernel), sh_t5 (i := 200) (by decide +kernel) (by decide +kernel), by decide, by decide +kernel⟩
theorem yv_X8_widestIndex : sh_YV yX8_widestIndex := ⟨sh_t5 (i := 199) (by decide +kernel) (by decide +kernel), sh_pin (q := (yX8_widestIndex, 5)) (i := 36) (by decide +kernel) (by decide +kernel)⟩
theorem yy_X8_leastFreeHash : sh_Y yX8_leastFreeHash cX8_leastFreeHash 3 (some .int) 0 := ⟨sh_t1 (i := 12) (by decide +kernel) (by decide +kernel), sh_t5 (i := 204) (by decide +kernel) (by decide +kernel), by decide, by decide +kernel⟩
theorem yv_X8_leastFreeHash : sh_YV yX8_leastFreeHash := ⟨sh_t5 (i := 203) (by decide +kernel) (by decide +kernel), sh_pin (q := (yX8_leastFreeHash, 5)) (i := 37) (by decide +kernel) (by decide +kernel)⟩
theorem yy_X9_init : sh_Y yX9_init cX9_init 1 none 0 := ⟨sh_t1 (i := 2) (by decide +kernel) (by decide +kernel), sh_t1 (i := 41) (by decide +kernel) (by decide +kernel), by decide, by decide +kernel⟩
theorem yy_X9_append : sh_Y yX9_append cX9_append 3 none 1 := ⟨sh_t1 (i := 2) (by decide +kernel) (by decide +kernel), sh_t2 (i := 164) (by decide +kernel) (by decide +kernel), by decide, by decide +kernel⟩
theorem yv_X9_append : sh_YV yX9_append := ⟨sh_t2 (i := 162) (by decide +kernel) (by decide +kernel), sh_t2 (i := 163) (by decide +kernel) (by decide +kernel)⟩
theorem yy_X9_useUp : sh_Y yX9_useUp cX9_useUp 2 (some .int) 0 := ⟨sh_t1 (i := 2) (by decide +kernel) (by decide +kernel), sh_t2 (i := 239) (by decide +kernel) (by decide +kernel), by decide, by decide +kernel⟩
theorem yv_X9_useUp : sh_YV yX9_useUp := ⟨sh_t2 (i := 237) (by decide +kernel) (by decide +kernel), sh_t2 (i := 238) (by decide +kernel) (by decide +kernel)⟩
theorem yy_X10_init : sh_Y yX10_init cX10_init 2 none 1 := ⟨sh_t1 (i := 3) (by decide +kernel) (by decide +kernel), sh_t1 (i := 57) (by decide +kernel) (by decide +kernel), by decide, by decide +kernel⟩
theorem yy_X10_begin : sh_Y yX10_begin cX10_begin 2 none 1 := ⟨sh_t1 (i := 3) (by decide +kernel) (by decide +kernel), sh_t3 (i := 3) (by decide +kernel) (by decide +kernel), by decide, by decide +kernel⟩
theorem yv_X10_begin : sh_YV yX10_begin := ⟨sh_t3 (i := 1) (by decide +kernel) (by decide +kernel), sh_t3 (i := 2) (by decide +kernel) (by decide +kernel)⟩
theorem yy_X10_markWrong : sh_Y yX10_markWrong cX10_markWrong 2 none 1 := ⟨sh_t1 (i := 3) (by decide +kernel) (by decide +kernel), sh_t3 (i := 92) (by decide +kernel) (by decide +kernel), by decide, by decide +kernel⟩
theorem yv_X10_markWrong : sh_YV yX10_markWrong := ⟨sh_t3 (i := 90) (by decide +kernel) (by decide +kernel), sh_t3 (i := 91) (by decide +kernel) (by decide +kernel)⟩
theorem yy_X10_skipBlanks : sh_Y yX10_skipBlanks cX10_skipBlanks 3 none 0 := ⟨sh_t1 (i := 3) (by decide +kernel) (by decide +kernel), sh_t3 (i := 15) (by decide +kernel) (by decide +kernel), by decide, by decide +kernel⟩
theorem yv_X10_skipBlanks : sh_YV yX10_skipBlanks := ⟨sh_t3 (i := 13) (by decide +kernel) (by decide +kernel), sh_t3 (i := 14) (by decide +kernel) (by decide +kernel)⟩
theorem yy_X10_isOver : sh_Y yX10_isOver cX10_isOver 1 (some .boolean) 0 := ⟨sh_t1 (i := 3) (by decide +kernel) (by decide +kernel), sh_t3 (i := 11) (by decide +kernel) (by decide +kernel), by decide, by decide +kernel⟩
theorem yv_X10_isOver : sh_YV yX10_isOver := ⟨sh_t3 (i := 9) (by decide +kernel) (by decide +kernel), sh_t3 (i := 10) (by decide +kernel) (by decide +kernel)⟩
theorem yy_X10_isRightlyOver : sh_Y yX10_isRightlyOver cX10_isRightlyOver 1 (some .boolean) 0 := ⟨sh_t1 (i := 3) (by decide +kernel) (by decide +kernel), sh_t4 (i := 90) (by decide +kernel) (by decide +kernel), by decide, by decide +kernel⟩
theorem yv_X10_isRightlyOver : sh_YV yX10_isRightlyOver := ⟨sh_t4 (i := 88) (by decide +kernel) (by decide +kernel), sh_t4 (i := 89) (by decide +kernel) (by decide +kernel)⟩
theorem yy_X10_passSemicolon : sh_Y yX10_passSemicolon cX10_passSemicolon 1 (some .boolean) 0 := ⟨sh_t1 (i := 3) (by decide +kernel) (by decide +kernel), sh_t4 (i := 81) (by decide +kernel) (by decide +kernel), by decide, by decide +kernel⟩
theorem yv_X10_passSemicolon : sh_YV yX10_passSemicolon := ⟨sh_t4 (i := 79) (by decide +kernel) (by decide +kernel), sh_t4 (i := 80) (by decide +kernel) (by decide +kernel)⟩
theorem yy_X10_readName : sh_Y yX10_readName cX10_readName 6 (some .long) 0 := ⟨sh_t1 (i := 3) (by decide +kernel) (by decide +kernel), sh_t3 (i := 96) (by decide +kernel) (by decide +kernel), by decide, by decide +kernel⟩
theorem yv_X10_readName : sh_YV yX10_readName := ⟨sh_t3 (i := 94) (by decide +kernel) (by decide +kernel), sh_t3 (i := 95) (by decide +kernel) (by decide +kernel)⟩
theorem yy_X10_readNumber : sh_Y yX10_readNumber cX10_readNumber 7 (some .int) 2 := ⟨sh_t1 (i := 3) (by decide +kernel) (by decide +kernel), sh_t3 (i := 104) (by decide +kernel) (by decide +kernel), by decide, by decide +kernel⟩
theorem yv_X10_readNumber : sh_YV yX10_readNumber := ⟨sh_t3 (i := 102) (by decide +kernel) (by decide +kernel), sh_t3 (i := 103) (by decide +kernel) (by decide +kernel)⟩
theorem yy_X10_readAct : sh_Y yX10_readAct cX10_readAct 2 (some .boolean) 0 := ⟨sh_t1 (i := 3) (by decide +kernel) (by decide +kernel), sh_t3 (i := 23) (by decide +kernel) (by decide +kernel), by decide, by decide +kernel⟩
theorem yv_X10_readAct : sh_YV yX10_readAct := ⟨sh_t3 (i := 21) (by decide +kernel) (by decide +kernel), sh_t3 (i := 22) (by decide +kernel) (by decide +kernel)⟩
theorem yy_X10_actNumber : sh_Y yX10_actNumber cX10_actNumber 4 (some .int) 2 := ⟨sh_t1 (i := 3) (by decide +kernel) (by decide +kernel), sh_t3 (i := 34) (by decide +kernel) (by decide +kernel), by decide, by decide +kernel⟩
theorem yv_X10_actNumber : sh_YV yX10_actNumber := ⟨sh_t3 (i := 33) (by decide +kernel) (by decide +kernel), sh_pin (q := (yX10_actNumber, 9)) (i := 5) (by decide +kernel) (by decide +kernel)⟩
theorem yy_X10_isWord : sh_Y yX10_isWord cX10_isWord 5 (some .boolean) 3 := ⟨sh_t1 (i := 3) (by decide +kernel) (by decide +kernel), sh_t3 (i := 40) (by decide +kernel) (by decide +kernel), by decide, by decide +kernel⟩
theorem yv_X10_isWord : sh_YV yX10_isWord := ⟨sh_t3 (i := 39) (by decide +kernel) (by decide +kernel), sh_pin (q := (yX10_isWord, 9)) (i := 6) (by decide +kernel) (by decide +kernel)⟩
theorem yy_X10_passLetters : sh_Y yX10_passLetters cX10_passLetters 3 (some .int) 0 := ⟨sh_t1 (i := 3) (by decide +kernel) (by decide +kernel), sh_t3 (i := 27) (by decide +kernel) (by decide +kernel), by decide, by decide +kernel⟩
theorem yv_X10_passLetters : sh_YV yX10_passLetters := ⟨sh_t3 (i := 26) (by decide +kernel) (by decide +kernel), sh_pin (q := (yX10_passLetters, 9)) (i := 4) (by decide +kernel) (by decide +kernel)⟩
theorem yy_X10_passDigits : sh_Y yX10_passDigits cX10_passDigits 3 (some .int) 0 := ⟨sh_t1 (i := 3) (by decide +kernel) (by decide +kernel), sh_t3 (i := 108) (by decide +kernel) (by decide +kernel), by decide, by decide +kernel⟩
theorem yv_X10_passDigits : sh_YV yX10_passDigits := ⟨sh_t3 (i := 107) (by decide +kernel) (by decide +kernel), sh_pin (q := (yX10_passDigits, 9)) (i := 7) (by decide +kernel) (by decide +kernel)⟩
theorem yy_X10_byteAt : sh_Y yX10_byteAt cX10_byteAt 2 (some .int) 1 := ⟨sh_t1 (i := 3) (by decide +kernel) (by decide +kernel), sh_t3 (i := 19) (by decide +kernel) (by decide +kernel), by decide, by decide +kernel⟩
theorem yv_X10_byteAt : sh_YV yX10_byteAt := ⟨sh_t3 (i := 18) (by decide +kernel) (by decide +kernel), sh_pin (q := (yX10_byteAt, 9)) (i := 3) (by decide +kernel) (by decide +kernel)⟩
theorem yy_X10_isLetter : sh_Y yX10_isLetter cX10_isLetter 1 (some .boolean) 1 := ⟨sh_t1 (i := 3) (by decide +kernel) (by decide +kernel), sh_t3 (i := 30) (by decide +kernel) (by decide +kernel), by decide, by decide +kernel⟩
theorem ys_X10_isLetter : Cond.static yX10_isLetter ∈ sh_ws := sh_t3 (i := 29) (by decide +kernel) (by decide +kernel)
theorem yy_X10_isDigit : sh_Y yX10_isDigit cX10_isDigit 1 (some .boolean) 1 := ⟨sh_t1 (i := 3) (by decide +kernel) (by decide +kernel), sh_t3 (i := 111) (by decide +kernel) (by decide +kernel), by decide, by decide +kernel⟩
theorem ys_X10_isDigit : Cond.static yX10_isDigit ∈ sh_ws := sh_t3 (i := 110) (by decide +kernel) (by decide +kernel)
theorem yy_X11_init : sh_Y yX11_init cX11_init 1 none 0 := ⟨sh_t1 (i := 10) (by decide +kernel) (by decide +kernel), sh_t2 (i := 1) (by decide +kernel) (by decide +kernel), by decide, by decide +kernel⟩
theorem yy_X11_trace : sh_Y yX11_trace cX11_trace 7 none 3 := ⟨sh_t1 (i := 10) (by decide +kernel) (by decide +kernel), sh_t3 (i := 167) (by decide +kernel) (by decide +kernel), by decide, by decide +kernel⟩
theorem yv_X11_trace : sh_YV yX11_trace := ⟨sh_t3 (i := 165) (by decide +kernel) (by decide +kernel), sh_t3 (i := 166) (by decide +kernel) (by decide +kernel)⟩
theorem yy_X11_firstLeaf : sh_Y yX11_firstLeaf cX11_firstLeaf 1 (some .int) 0 := ⟨sh_t1 (i := 10) (by decide +kernel) (by decide +kernel), sh_t3 (i := 235) (by decide +kernel) (by decide +kernel), by decide, by decide +kernel⟩
theorem yv_X11_firstLeaf : sh_YV yX11_firstLeaf := ⟨sh_t3 (i := 233) (by decide +kernel) (by decide +kernel), sh_t3 (i := 234) (by decide +kernel) (by decide +kernel)⟩
theorem yy_X11_lowestIndex : sh_Y yX11_lowestIndex cX11_lowestIndex 1 (some .int) 0 := ⟨sh_t1 (i := 10) (by decide +kernel) (by decide +kernel), sh_t3 (i := 196) (by decide +kernel) (by decide +kernel), by decide, by decide +kernel⟩
theorem yv_X11_lowestIndex : sh_YV yX11_lowestIndex := ⟨sh_t3 (i := 194) (by decide +kernel) (by decide +kernel), sh_t3 (i := 195) (by decide +kernel) (by decide +kernel)⟩
theorem yy_X11_blockAt : sh_Y yX11_blockAt cX11_blockAt 2 (some .int) 1 := ⟨sh_t1 (i := 10) (by decide +kernel) (by decide +kernel), sh_t5 (i := 114) (by decide +kernel) (by decide +kernel), by decide, by decide +kernel⟩
theorem yv_X11_blockAt : sh_YV yX11_blockAt := ⟨sh_t5 (i := 112) (by decide +kernel) (by decide +kernel), sh_t5 (i := 113) (by decide +kernel) (by decide +kernel)⟩
theorem yy_X11_goesOn : sh_Y yX11_goesOn cX11_goesOn 3 (some .boolean) 3 := ⟨sh_t1 (i := 10) (by decide +kernel) (by decide +kernel), sh_t3 (i := 180) (by decide +kernel) (by decide +kernel), by decide, by decide +kernel⟩
theorem ys_X11_goesOn : Cond.static yX11_goesOn ∈ sh_ws := sh_t3 (i := 179) (by decide +kernel) (by decide +kernel)
theorem yy_X11_rowFor : sh_Y yX11_rowFor cX11_rowFor 7 (some .int) 3 := ⟨sh_t1 (i := 10) (by decide +kernel) (by decide +kernel), sh_t3 (i := 173) (by decide +kernel) (by decide +kernel), by decide, by decide +kernel⟩
theorem ys_X11_rowFor : Cond.static yX11_rowFor ∈ sh_ws := sh_t3 (i := 172) (by decide +kernel) (by decide +kernel)
theorem yy_X12_init : sh_Y yX12_init cX12_init 2 none 0 := ⟨sh_t1 (i := 1) (by decide +kernel) (by decide +kernel), sh_t1 (i := 33) (by decide +kernel) (by decide +kernel), by decide, by decide +kernel⟩
theorem yy_X12_feed : sh_Y yX12_feed cX12_feed 6 (some .int) 5 := ⟨sh_t1 (i := 1) (by decide +kernel) (by decide +kernel), sh_t2 (i := 160) (by decide +kernel) (by decide +kernel), by decide, by decide +kernel⟩
theorem yv_X12_feed : sh_YV yX12_feed := ⟨sh_t2 (i := 158) (by decide +kernel) (by decide +kernel), sh_t2 (i := 159) (by decide +kernel) (by decide +kernel)⟩
theorem yy_X12_end : sh_Y yX12_end cX12_end 2 (some .boolean) 1 := ⟨sh_t1 (i := 1) (by decide +kernel) (by decide +kernel), sh_t2 (i := 168) (by decide +kernel) (by decide +kernel), by decide, by decide +kernel⟩
theorem yv_X12_end : sh_YV yX12_end := ⟨sh_t2 (i := 166) (by decide +kernel) (by decide +kernel), sh_t2 (i := 167) (by decide +kernel) (by decide +kernel)⟩
theorem yy_X12_acts : sh_Y yX12_acts cX12_acts 2 (some .int) 0 := ⟨sh_t1 (i := 1) (by decide +kernel) (by decide +kernel), sh_t2 (i := 235) (by decide +kernel) (by decide +kernel), by decide, by decide +kernel⟩
theorem yv_X12_acts : sh_YV yX12_acts := ⟨sh_t2 (i := 233) (by decide +kernel) (by decide +kernel), sh_t2 (i := 234) (by decide +kernel) (by decide +kernel)⟩
theorem yy_X12_fault : sh_Y yX12_fault cX12_fault 1 (some .int) 0 := ⟨sh_t1 (i := 1) (by decide +kernel) (by decide +kernel), sh_t2 (i := 172) (by decide +kernel) (by decide +kernel), by decide, by decide +kernel⟩
theorem yv_X12_fault : sh_YV yX12_fault := ⟨sh_t2 (i := 170) (by decide +kernel) (by decide +kernel), sh_t2 (i := 171) (by decide +kernel) (by decide +kernel)⟩
theorem yy_X12_why : sh_Y yX12_why cX12_why 1 (some .int) 0 := ⟨sh_t1 (i := 1) (by decide +kernel) (by decide +kernel), sh_t2 (i := 176) (by decide +kernel) (by decide +kernel), by decide, by decide +kernel⟩
theorem yv_X12_why : sh_YV yX12_why := ⟨sh_t2 (i := 174) (by decide +kernel) (by decide +kernel), sh_t2 (i := 175) (by decide +kernel) (by decide +kernel)⟩
theorem yy_X12_put : sh_Y yX12_put cX12_put 5 (some .int) 1 := ⟨sh_t1 (i := 1) (by decide +kernel) (by decide +kernel), sh_t4 (i := 168) (by decide +kernel) (by decide +kernel), by decide, by decide +kernel⟩
theorem yv_X12_put : sh_YV yX12_put := ⟨sh_t4 (i := 166) (by decide +kernel) (by decide +kernel), sh_t4 (i := 167) (by decide +kernel) (by decide +kernel)⟩
theorem yy_X12_cut : sh_Y yX12_cut cX12_cut 3 (some .int) 0 := ⟨sh_t1 (i := 1) (by decide +kernel) (by decide +kernel), sh_t4 (i := 209) (by decide +kernel) (by decide +kernel), by decide, by decide +kernel⟩
theorem yv_X12_cut : sh_YV yX12_cut := ⟨sh_t4 (i := 207) (by decide +kernel) (by decide +kernel), sh_t4 (i := 208) (by decide +kernel) (by decide +kernel)⟩
theorem yy_X12_turn : sh_Y yX12_turn cX12_turn 5 (some .int) 0 := ⟨sh_t1 (i := 1) (by decide +kernel) (by decide +kernel), sh_t4 (i := 218) (by decide +kernel) (by decide +kernel), by decide, by decide +kernel⟩
theorem yv_X12_turn : sh_YV yX12_turn := ⟨sh_t4 (i := 216) (by decide +kernel) (by decide +kernel), sh_t4 (i := 217) (by decide +kernel) (by decide +kernel)⟩
theorem yy_X12_build : sh_Y yX12_build cX12_build 1 (some .int) 0 := ⟨sh_t1 (i := 1) (by decide +kernel) (by decide +kernel), sh_t4 (i := 227) (by decide +kernel) (by decide +kernel), by decide, by decide +kernel⟩
theorem yv_X12_build : sh_YV yX12_build := ⟨sh_t4 (i := 225) (by decide +kernel) (by decide +kernel), sh_t4 (i := 226) (by decide +kernel) (by decide +kernel)⟩
theorem yy_X12_tune : sh_Y yX12_tune cX12_tune 4 (some .int) 2 := ⟨sh_t1 (i := 1) (by decide +kernel) (by decide +kernel), sh_t4 (i := 236) (by decide +kernel) (by decide +kernel), by decide, by decide +kernel⟩
theorem yv_X12_tune : sh_YV yX12_tune := ⟨sh_t4 (i := 234) (by decide +kernel) (by decide +kernel), sh_t4 (i := 235) (by decide +kernel) (by decide +kernel)⟩
theorem yy_X12_tear : sh_Y yX12_tear cX12_tear 2 (some .int) 1 := ⟨sh_t1 (i := 1) (by decide +kernel) (by decide +kernel), sh_t5 (i := 28) (by decide +kernel) (by decide +kernel), by decide, by decide +kernel⟩
theorem yv_X12_tear : sh_YV yX12_tear := ⟨sh_t5 (i := 26) (by decide +kernel) (by decide +kernel), sh_t5 (i := 27) (by decide +kernel) (by decide +kernel)⟩
theorem yy_X12_undo : sh_Y yX12_undo cX12_undo 1 (some .int) 0 := ⟨sh_t1 (i := 1) (by decide +kernel) (by decide +kernel), sh_t5 (i := 56) (by decide +kernel) (by decide +kernel), by decide, by decide +kernel⟩
theorem yv_X12_undo : sh_YV yX12_undo := ⟨sh_t5 (i := 54) (by decide +kernel) (by decide +kernel), sh_t5 (i := 55) (by decide +kernel) (by decide +kernel)⟩
theorem yy_X12_find : sh_Y yX12_find cX12_find 5 (some .int) 1 := ⟨sh_t1 (i := 1) (by decide +kernel) (by decide +kernel), sh_t5 (i := 68) (by decide +kernel) (by decide +kernel), by decide, by decide +kernel⟩
theorem yv_X12_find : sh_YV yX12_find := ⟨sh_t5 (i := 66) (by decide +kernel) (by decide +kernel), sh_t5 (i := 67) (by decide +kernel) (by decide +kernel)⟩
theorem yy_X12_way : sh_Y yX12_way cX12_way 4 (some .int) 1 := ⟨sh_t1 (i := 1) (by decide +kernel) (by decide +kernel), sh_t5 (i := 108) (by decide +kernel) (by decide +kernel), by decide, by decide +kernel⟩
theorem yv_X12_way : sh_YV yX12_way := ⟨sh_t5 (i := 106) (by decide +kernel) (by decide +kernel), sh_t5 (i := 107) (by decide +kernel) (by decide +kernel)⟩
theorem yy_X12_block : sh_Y yX12_block cX12_block 3 (some .int) 2 := ⟨sh_t1 (i := 1) (by decide +kernel) (by decide +kernel), sh_t5 (i := 121) (by decide +kernel) (by decide +kernel), by decide, by decide +kernel⟩
theorem yv_X12_block : sh_YV yX12_block := ⟨sh_t5 (i := 119) (by decide +kernel) (by decide +kernel), sh_t5 (i := 120) (by decide +kernel) (by decide +kernel)⟩
theorem yy_X12_entry : sh_Y yX12_entry cX12_entry 7 (some .int) 3 := ⟨sh_t1 (i := 1) (by decide +kernel) (by decide +kernel), sh_t5 (i := 129) (by decide +kernel) (by decide +kernel), by decide, by decide +kernel⟩
theorem yv_X12_entry : sh_YV yX12_entry := ⟨sh_t5 (i := 127) (by decide +kernel) (by decide +kernel), sh_t5 (i := 128) (by decide +kernel) (by decide +kernel)⟩
theorem yy_X12_letter : sh_Y yX12_letter cX12_letter 6 (some .int) 3 := ⟨sh_t1 (i := 1) (by decide +kernel) (by decide +kernel), sh_t5 (i := 143) (by decide +kernel) (by decide +kernel), by decide, by decide +kernel⟩
theorem yv_X12_letter : sh_YV yX12_letter := ⟨sh_t5 (i := 141) (by decide +kernel) (by decide +kernel), sh_t5 (i := 142) (by decide +kernel) (by decide +kernel)⟩
theorem yy_X12_row : sh_Y yX12_row cX12_row 5 (some .int) 3 := ⟨sh_t1 (i := 1) (by decide +kernel) (by decide +kernel), sh_t5 (i := 150) (by decide +kernel) (by decide +kernel), by decide, by decide +kernel⟩
theorem yv_X12_row : sh_YV yX12_row := ⟨sh_t5 (i := 148) (by decide +kernel) (by decide +kernel), sh_t5 (i := 149) (by decide +kernel) (by decide +kernel)⟩
theorem yy_X12_leaf : sh_Y yX12_leaf cX12_leaf 2 (some .int) 1 := ⟨sh_t1 (i := 1) (by decide +kernel) (by decide +kernel), sh_t2 (i := 180) (by decide +kernel) (by decide +kernel), by decide, by decide +kernel⟩
theorem yv_X12_leaf : sh_YV yX12_leaf := ⟨sh_t2 (i := 178) (by decide +kernel) (by decide +kernel), sh_t2 (i := 179) (by decide +kernel) (by decide +kernel)⟩
theorem yy_X12_shape : sh_Y yX12_shape cX12_shape 2 (some .int) 1 := ⟨sh_t1 (i := 1) (by decide +kernel) (by decide +kernel), sh_t5 (i := 158) (by decide +kernel) (by decide +kernel), by decide, by decide +kernel⟩
theorem yv_X12_shape : sh_YV yX12_shape := ⟨sh_t5 (i := 156) (by decide +kernel) (by decide +kernel), sh_t5 (i := 157) (by decide +kernel) (by decide +kernel)⟩
theorem yy_X12_crowds : sh_Y yX12_crowds cX12_crowds 2 (some .int) 1 := ⟨sh_t1 (i := 1) (by decide +kernel) (by decide +kernel), sh_t5 (i := 211) (by decide +kernel) (by decide +kernel), by decide, by decide +kernel⟩
theorem yv_X12_crowds : sh_YV yX12_crowds := ⟨sh_t5 (i := 209) (by decide +kernel) (by decide +kernel), sh_t5 (i := 210) (by decide +kernel) (by decide +kernel)⟩
theorem yy_X12_best : sh_Y yX12_best cX12_best 3 (some .int) 2 := ⟨sh_t1 (i := 1) (by decide +kernel) (by decide +kernel), sh_t5 (i := 223) (by decide +kernel) (by decide +kernel), by decide, by decide +kernel⟩
theorem yv_X12_best : sh_YV yX12_best := ⟨sh_t5 (i := 221) (by decide +kernel) (by decide +kernel), sh_t5 (i := 222) (by decide +kernel) (by decide +kernel)⟩
theorem yy_X12_open : sh_Y yX12_open cX12_open 5 (some .boolean) 2 := ⟨sh_t1 (i := 1) (by decide +kernel) (by decide +kernel), sh_t5 (i := 236) (by decide +kernel) (by decide +kernel), by decide, by decide +kernel⟩
theorem yv_X12_open : sh_YV yX12_open := ⟨sh_t5 (i := 234) (by decide +kernel) (by decide +kernel), sh_t5 (i := 235) (by decide +kernel) (by decide +kernel)⟩
theorem yy_X12_next : sh_Y yX12_next cX12_next 4 (some .int) 1 := ⟨sh_t1 (i := 1) (by decide +kernel) (by decide +kernel), sh_t6 (i := 11) (by decide +kernel) (by decide +kernel), by decide, by decide +kernel⟩
theorem yv_X12_next : sh_YV yX12_next := ⟨sh_t6 (i := 9) (by decide +kernel) (by decide +kernel), sh_t6 (i := 10) (by decide +kernel) (by decide +kernel)⟩
theorem yy_X12_reader : sh_Y yX12_reader cX12_reader 4 (some .int) 2 := ⟨sh_t1 (i := 1) (by decide +kernel) (by decide +kernel), sh_t6 (i := 32) (by decide +kernel) (by decide +kernel), by decide, by decide +kernel⟩
theorem yv_X12_reader : sh_YV yX12_reader := ⟨sh_t6 (i := 30) (by decide +kernel) (by decide +kernel), sh_t6 (i := 31) (by decide +kernel) (by decide +kernel)⟩
theorem yy_X12_batch : sh_Y yX12_batch cX12_batch 4 (some .int) 2 := ⟨sh_t1 (i := 1) (by decide +kernel) (by decide +kernel), sh_t6 (i := 39) (by decide +kernel) (by decide +kernel), by decide, by decide +kernel⟩
theorem yv_X12_batch : sh_YV yX12_batch := ⟨sh_t6 (i := 37) (by decide +kernel) (by decide +kernel), sh_t6 (i := 38) (by decide +kernel) (by decide +kernel)⟩
theorem yy_X12_image : sh_Y yX12_image cX12_image 1 none 0 := ⟨sh_t1 (i := 1) (by decide +kernel) (by decide +kernel), sh_t2 (i := 192) (by decide +kernel) (by decide +kernel), by decide, by decide +kernel⟩
theorem yv_X12_image : sh_YV yX12_image := ⟨sh_t2 (i := 190) (by decide +kernel) (by decide +kernel), sh_t2 (i := 191) (by decide +kernel) (by decide +kernel)⟩
theorem yy_X12_back : sh_Y yX12_back cX12_back 1 (some .boolean) 0 := ⟨sh_t1 (i := 1) (by decide +kernel) (by decide +kernel), sh_t2 (i := 203) (by decide +kernel) (by decide +kernel), by decide, by decide +kernel⟩
theorem yv_X12_back : sh_YV yX12_back := ⟨sh_t2 (i := 201) (by decide +kernel) (by decide +kernel), sh_t2 (i := 202) (by decide +kernel) (by decide +kernel)⟩
theorem yy_X12_count : sh_Y yX12_count cX12_count 2 (some .int) 1 := ⟨sh_t1 (i := 1) (by decide +kernel) (by decide +kernel), sh_t2 (i := 215) (by decide +kernel) (by decide +kernel), by decide, by decide +kernel⟩
theorem yv_X12_count : sh_YV yX12_count := ⟨sh_t2 (i := 213) (by decide +kernel) (by decide +kernel), sh_t2 (i := 214) (by decide +kernel) (by decide +kernel)⟩
theorem yy_X12_isBlock : sh_Y yX12_isBlock cX12_isBlock 1 (some .boolean) 1 := ⟨sh_t1 (i := 1) (by decide +kernel) (by decide +kernel), sh_t5 (i := 31) (by decide +kernel) (by decide +kernel), by decide, by decide +kernel⟩
theorem ys_X12_isBlock : Cond.static yX12_isBlock ∈ sh_ws := sh_t5 (i := 30) (by decide +kernel) (by decide +kernel)
theorem yy_X12_isSlot : sh_Y yX12_isSlot cX12_isSlot 1 (some .boolean) 1 := ⟨sh_t1 (i := 1) (by decide +kernel) (by decide +kernel), sh_t5 (i := 132) (by decide +kernel) (by decide +kernel), by decide, by decide +kernel⟩
theorem ys_X12_isSlot : Cond.static yX12_isSlot ∈ sh_ws := sh_t5 (i := 131) (by decide +kernel) (by decide +kernel)
theorem yy_X12_isReader : sh_Y yX12_isReader cX12_isReader 1 (some .boolean) 1 := ⟨sh_t1 (i := 1) (by decide +kernel) (by decide +kernel), sh_t5 (i := 239) (by decide +kernel) (by decide +kernel), by decide, by decide +kernel⟩
theorem ys_X12_isReader : Cond.static yX12_isReader ∈ sh_ws := sh_t5 (i := 238) (by decide +kernel) (by decide +kernel)
theorem yy_X12_isKey : sh_Y yX12_isKey cX12_isKey 1 (some .boolean) 1 := ⟨sh_t1 (i := 1) (by decide +kernel) (by decide +kernel), sh_t5 (i := 214) (by decide +kernel) (by decide +kernel), by decide, by decide +kernel⟩
theorem ys_X12_isKey : Cond.static yX12_isKey ∈ sh_ws := sh_t5 (i := 213) (by decide +kernel) (by decide +kernel)
theorem yy_X12_codeAt : sh_Y yX12_codeAt cX12_codeAt 3 (some .int) 2 := ⟨sh_t1 (i := 1) (by decide +kernel) (by decide +kernel), sh_t3 (i := 154) (by decide +kernel) (by decide +kernel), by decide, by decide +kernel⟩
theorem ys_X12_codeAt : Cond.static yX12_codeAt ∈ sh_ws := sh_t3 (i := 153) (by decide +kernel) (by decide +kernel)
theorem yy_X12_lettersOf : sh_Y yX12_lettersOf cX12_lettersOf 4 (some .int) 1 := ⟨sh_t1 (i := 1) (by decide +kernel) (by decide +kernel), sh_t5 (i := 136) (by decide +kernel) (by decide +kernel), by decide, by decide +kernel⟩
theorem ys_X12_lettersOf : Cond.static yX12_lettersOf ∈ sh_ws := sh_t5 (i := 135) (by decide +kernel) (by decide +kernel)
theorem yy_X12_stirred : sh_Y yX12_stirred cX12_stirred 3 (some .int) 2 := ⟨sh_t1 (i := 1) (by decide +kernel) (by decide +kernel), sh_t3 (i := 157) (by decide +kernel) (by decide +kernel), by decide, by decide +kernel⟩
theorem ys_X12_stirred : Cond.static yX12_stirred ∈ sh_ws := sh_t3 (i := 156) (by decide +kernel) (by decide +kernel)
theorem yy_X12_hashBy : sh_Y yX12_hashBy cX12_hashBy 8 (some .int) 4 := ⟨sh_t1 (i := 1) (by decide +kernel) (by decide +kernel), sh_t3 (i := 151) (by decide +kernel) (by decide +kernel), by decide, by decide +kernel⟩
theorem ys_X12_hashBy : Cond.static yX12_hashBy ∈ sh_ws := sh_t3 (i := 150) (by decide +kernel) (by decide +kernel)
theorem yy_X12_areOne : sh_Y yX12_areOne cX12_areOne 5 (some .boolean) 3 := ⟨sh_t1 (i := 1) (by decide +kernel) (by decide +kernel), sh_t3 (i := 143) (by decide +kernel) (by decide +kernel), by decide, by decide +kernel⟩
theorem ys_X12_areOne : Cond.static yX12_areOne ∈ sh_ws := sh_t3 (i := 142) (by decide +kernel) (by decide +kernel)
theorem yy_X12_groupsOf : sh_Y yX12_groupsOf cX12_groupsOf 1 (some .int) 1 := ⟨sh_t1 (i := 1) (by decide +kernel) (by decide +kernel), sh_t4 (i := 53) (by decide +kernel) (by decide +kernel), by decide, by decide +kernel⟩
theorem ys_X12_groupsOf : Cond.static yX12_groupsOf ∈ sh_ws := sh_t4 (i := 52) (by decide +kernel) (by decide +kernel)
theorem yy_X12_nameTold : sh_Y yX12_nameTold cX12_nameTold 4 (some .long) 1 := ⟨sh_t1 (i := 1) (by decide +kernel) (by decide +kernel), sh_t4 (i := 173) (by decide +kernel) (by decide +kernel), by decide, by decide +kernel⟩
theorem yv_X12_nameTold : sh_YV yX12_nameTold := ⟨sh_t4 (i := 172) (by decide +kernel) (by decide +kernel), sh_pin (q := (yX12_nameTold, 11)) (i := 27) (by decide +kernel) (by decide +kernel)⟩
theorem yy_X12_doByCall : sh_Y yX12_doByCall cX12_doByCall 8 (some .int) 4 := ⟨sh_t1 (i := 1) (by decide +kernel) (by decide +kernel), sh_t4 (i := 180) (by decide +kernel) (by decide +kernel), by decide, by decide +kernel⟩
theorem yv_X12_doByCall : sh_YV yX12_doByCall := ⟨sh_t4 (i := 179) (by decide +kernel) (by decide +kernel), sh_pin (q := (yX12_doByCall, 11)) (i := 28) (by decide +kernel) (by decide +kernel)⟩
theorem yy_X12_doText : sh_Y yX12_doText cX12_doText 4 (some .int) 0 := ⟨sh_t1 (i := 1) (by decide +kernel) (by decide +kernel), sh_t3 (i := 7) (by decide +kernel) (by decide +kernel), by decide, by decide +kernel⟩
theorem yv_X12_doText : sh_YV yX12_doText := ⟨sh_t3 (i := 6) (by decide +kernel) (by decide +kernel), sh_pin (q := (yX12_doText, 11)) (i := 2) (by decide +kernel) (by decide +kernel)⟩
theorem yy_X12_endText : sh_Y yX12_endText cX12_endText 3 (some .int) 2 := ⟨sh_t1 (i := 1) (by decide +kernel) (by decide +kernel), sh_t4 (i := 86) (by decide +kernel) (by decide +kernel), by decide, by decide +kernel⟩
theorem yv_X12_endText : sh_YV yX12_endText := ⟨sh_t4 (i := 85) (by decide +kernel) (by decide +kernel), sh_pin (q := (yX12_endText, 11)) (i := 25) (by decide +kernel) (by decide +kernel)⟩
theorem yy_X12_closeReaders : sh_Y yX12_closeReaders cX12_closeReaders 2 none 0 := ⟨sh_t1 (i := 1) (by decide +kernel) (by decide +kernel), sh_t2 (i := 211) (by decide +kernel) (by decide +kernel), by decide, by decide +kernel⟩
theorem yv_X12_closeReaders : sh_YV yX12_closeReaders := ⟨sh_t2 (i := 210) (by decide +kernel) (by decide +kernel), sh_pin (q := (yX12_closeReaders, 11)) (i := 1) (by decide +kernel) (by decide +kernel)⟩
theorem yy_X13_init : sh_Y yX13_init cX13_init 2 none 0 := ⟨sh_t1 (i := 14) (by decide +kernel) (by decide +kernel), sh_t6 (i := 44) (by decide +kernel) (by decide +kernel), by decide, by decide +kernel⟩
theorem yy_X13_thrown : sh_Y yX13_thrown cX13_thrown 1 (some .int) 0 := ⟨sh_t1 (i := 14) (by decide +kernel) (by decide +kernel), sh_t6 (i := 168) (by decide +kernel) (by decide +kernel), by decide, by decide +kernel⟩
theorem yv_X13_thrown : sh_YV yX13_thrown := ⟨sh_t6 (i := 166) (by decide +kernel) (by decide +kernel), sh_t6 (i := 167) (by decide +kernel) (by decide +kernel)⟩
theorem yy_X13_isIn : sh_Y yX13_isIn cX13_isIn 3 (some .boolean) 3 := ⟨sh_t1 (i := 14) (by decide +kernel) (by decide +kernel), sh_t6 (i := 179) (by decide +kernel) (by decide +kernel), by decide, by decide +kernel⟩
theorem ys_X13_isIn : Cond.static yX13_isIn ∈ sh_ws := sh_t6 (i := 178) (by decide +kernel) (by decide +kernel)
theorem yy_X13_greater : sh_Y yX13_greater cX13_greater 2 (some .int) 2 := ⟨sh_t1 (i := 14) (by decide +kernel) (by decide +kernel), sh_t8 (i := 59) (by decide +kernel) (by decide +kernel), by decide, by decide +kernel⟩
theorem ys_X13_greater : Cond.static yX13_greater ∈ sh_ws := sh_t8 (i := 58) (by decide +kernel) (by decide +kernel)
theorem yy_X13_rowAt : sh_Y yX13_rowAt cX13_rowAt 3 (some .int) 3 := ⟨sh_t1 (i := 14) (by decide +kernel) (by decide +kernel), sh_t7 (i := 55) (by decide +kernel) (by decide +kernel), by decide, by decide +kernel⟩
theorem ys_X13_rowAt : Cond.static yX13_rowAt ∈ sh_ws := sh_t7 (i := 54) (by decide +kernel) (by decide +kernel)
theorem yy_X13_slotAt : sh_Y yX13_slotAt cX13_slotAt 2 (some .int) 2 := ⟨sh_t1 (i := 14) (by decide +kernel) (by decide +kernel), sh_t7 (i := 16) (by decide +kernel) (by decide +kernel), by decide, by decide +kernel⟩
theorem ys_X13_slotAt : Cond.static yX13_slotAt ∈ sh_ws := sh_t7 (i := 15) (by decide +kernel) (by decide +kernel)
theorem yy_X13_isEmpty : sh_Y yX13_isEmpty cX13_isEmpty 3 (some .boolean) 2 := ⟨sh_t1 (i := 14) (by decide +kernel) (by decide +kernel), sh_t7 (i := 13) (by decide +kernel) (by decide +kernel), by decide, by decide +kernel⟩
theorem yv_X13_isEmpty : sh_YV yX13_isEmpty := ⟨sh_t7 (i := 12) (by decide +kernel) (by decide +kernel), sh_pin (q := (yX13_isEmpty, 39)) (i := 53) (by decide +kernel) (by decide +kernel)⟩
theorem yy_X13_entries : sh_Y yX13_entries cX13_entries 4 (some .int) 1 := ⟨sh_t1 (i := 14) (by decide +kernel) (by decide +kernel), sh_t8 (i := 5) (by decide +kernel) (by decide +kernel), by decide, by decide +kernel⟩
theorem yv_X13_entries : sh_YV yX13_entries := ⟨sh_t8 (i := 4) (by decide +kernel) (by decide +kernel), sh_pin (q := (yX13_entries, 39)) (i := 92) (by decide +kernel) (by decide +kernel)⟩
theorem yy_X13_allEntries : sh_Y yX13_allEntries cX13_allEntries 3 (some .int) 0 := ⟨sh_t1 (i := 14) (by decide +kernel) (by decide +kernel), sh_t8 (i := 67) (by decide +kernel) (by decide +kernel), by decide, by decide +kernel⟩
theorem yv_X13_allEntries : sh_YV yX13_allEntries := ⟨sh_t8 (i := 66) (by decide +kernel) (by decide +kernel), sh_pin (q := (yX13_allEntries, 39)) (i := 99) (by decide +kernel) (by decide +kernel)⟩
theorem yy_X13_countOf : sh_Y yX13_countOf cX13_countOf 5 (some .int) 2 := ⟨sh_t1 (i := 14) (by decide +kernel) (by decide +kernel), sh_t7 (i := 5) (by decide +kernel) (by decide +kernel), by decide, by decide +kernel⟩
theorem yv_X13_countOf : sh_YV yX13_countOf := ⟨sh_t7 (i := 4) (by decide +kernel) (by decide +kernel), sh_pin (q := (yX13_countOf, 39)) (i := 51) (by decide +kernel) (by decide +kernel)⟩
theorem yy_X13_isAnyTorn : sh_Y yX13_isAnyTorn cX13_isAnyTorn 1 (some .boolean) 0 := ⟨sh_t1 (i := 14) (by decide +kernel) (by decide +kernel), sh_t7 (i := 1) (by decide +kernel) (by decide +kernel), by decide, by decide +kernel⟩
theorem yv_X13_isAnyTorn : sh_YV yX13_isAnyTorn := ⟨sh_t7 (i := 0) (by decide +kernel) (by decide +kernel), sh_pin (q := (yX13_isAnyTorn, 39)) (i := 50) (by decide +kernel) (by decide +kernel)⟩
theorem yy_X13_letterOf : sh_Y yX13_letterOf cX13_letterOf 3 (some .int) 2 := ⟨sh_t1 (i := 14) (by decide +kernel) (by decide +kernel), sh_t7 (i := 26) (by decide +kernel) (by decide +kernel), by decide, by decide +kernel⟩
theorem ys_X13_letterOf : Cond.static yX13_letterOf ∈ sh_ws := sh_t7 (i := 25) (by decide +kernel) (by decide +kernel)
theorem yy_X13_longOf : sh_Y yX13_longOf cX13_longOf 3 (some .int) 1 := ⟨sh_t1 (i := 14) (by decide +kernel) (by decide +kernel), sh_t7 (i := 39) (by decide +kernel) (by decide +kernel), by decide, by decide +kernel⟩
theorem ys_X13_longOf : Cond.static yX13_longOf ∈ sh_ws := sh_t7 (i := 38) (by decide +kernel) (by decide +kernel)
theorem yy_X13_small : sh_Y yX13_small cX13_small 1 (some .int) 1 := ⟨sh_t1 (i := 14) (by decide +kernel) (by decide +kernel), sh_t7 (i := 29) (by decide +kernel) (by decide +kernel), by decide, by decide +kernel⟩
theorem ys_X13_small : Cond.static yX13_small ∈ sh_ws := sh_t7 (i := 28) (by decide +kernel) (by decide +kernel)
theorem yy_X13_folded : sh_Y yX13_folded cX13_folded 5 (some .long) 1 := ⟨sh_t1 (i := 14) (by decide +kernel) (by decide +kernel), sh_t7 (i := 23) (by decide +kernel) (by decide +kernel), by decide, by decide +kernel⟩
theorem ys_X13_folded : Cond.static yX13_folded ∈ sh_ws := sh_t7 (i := 22) (by decide +kernel) (by decide +kernel)
theorem yy_X13_areOne : sh_Y yX13_areOne cX13_areOne 5 (some .boolean) 2 := ⟨sh_t1 (i := 14) (by decide +kernel) (by decide +kernel), sh_t7 (i := 20) (by decide +kernel) (by decide +kernel), by decide, by decide +kernel⟩
theorem yv_X13_areOne : sh_YV yX13_areOne := ⟨sh_t7 (i := 19) (by decide +kernel) (by decide +kernel), sh_pin (q := (yX13_areOne, 39)) (i := 54) (by decide +kernel) (by decide +kernel)⟩
theorem yy_X13_hash : sh_Y yX13_hash cX13_hash 8 (some .int) 4 := ⟨sh_t1 (i := 14) (by decide +kernel) (by decide +kernel), sh_t7 (i := 36) (by decide +kernel) (by decide +kernel), by decide, by decide +kernel⟩
theorem ys_X13_hash : Cond.static yX13_hash ∈ sh_ws := sh_t7 (i := 35) (by decide +kernel) (by decide +kernel)
theorem yy_X13_hashOf : sh_Y yX13_hashOf cX13_hashOf 3 (some .int) 1 := ⟨sh_t1 (i := 14) (by decide +kernel) (by decide +kernel), sh_t7 (i := 33) (by decide +kernel) (by decide +kernel), by decide, by decide +kernel⟩
theorem yv_X13_hashOf : sh_YV yX13_hashOf := ⟨sh_t7 (i := 32) (by decide +kernel) (by decide +kernel), sh_pin (q := (yX13_hashOf, 39)) (i := 55) (by decide +kernel) (by decide +kernel)⟩
theorem yy_X13_joins : sh_Y yX13_joins cX13_joins 3 none 2 := ⟨sh_t1 (i := 14) (by decide +kernel) (by decide +kernel), sh_t7 (i := 52) (by decide +kernel) (by decide +kernel), by decide, by decide +kernel⟩
theorem yv_X13_joins : sh_YV yX13_joins := ⟨sh_t7 (i := 51) (by decide +kernel) (by decide +kernel), sh_pin (q := (yX13_joins, 39)) (i := 58) (by decide +kernel) (by decide +kernel)⟩
theorem yy_X13_laysLine : sh_Y yX13_laysLine cX13_laysLine 4 none 0 := ⟨sh_t1 (i := 14) (by decide +kernel) (by decide +kernel), sh_t7 (i := 48) (by decide +kernel) (by decide +kernel), by decide, by decide +kernel⟩
theorem yv_X13_laysLine : sh_YV yX13_laysLine := ⟨sh_t7 (i := 47) (by decide +kernel) (by decide +kernel), sh_pin (q := (yX13_laysLine, 39)) (i := 57) (by decide +kernel) (by decide +kernel)⟩
theorem yy_X13_rowFor : sh_Y yX13_rowFor cX13_rowFor 6 (some .int) 2 := ⟨sh_t1 (i := 14) (by decide +kernel) (by decide +kernel), sh_t7 (i := 63) (by decide +kernel) (by decide +kernel), by decide, by decide +kernel⟩
theorem yv_X13_rowFor : sh_YV yX13_rowFor := ⟨sh_t7 (i := 62) (by decide +kernel) (by decide +kernel), sh_pin (q := (yX13_rowFor, 39)) (i := 60) (by decide +kernel) (by decide +kernel)⟩
theorem yy_X13_placeOf : sh_Y yX13_placeOf cX13_placeOf 3 (some .int) 1 := ⟨sh_t1 (i := 14) (by decide +kernel) (by decide +kernel), sh_t7 (i := 67) (by decide +kernel) (by decide +kernel), by decide, by decide +kernel⟩
theorem yv_X13_placeOf : sh_YV yX13_placeOf := ⟨sh_t7 (i := 66) (by decide +kernel) (by decide +kernel), sh_pin (q := (yX13_placeOf, 39)) (i := 61) (by decide +kernel) (by decide +kernel)⟩
theorem yy_X13_firstOf : sh_Y yX13_firstOf cX13_firstOf 4 (some .int) 1 := ⟨sh_t1 (i := 14) (by decide +kernel) (by decide +kernel), sh_t7 (i := 59) (by decide +kernel) (by decide +kernel), by decide, by decide +kernel⟩
theorem yv_X13_firstOf : sh_YV yX13_firstOf := ⟨sh_t7 (i := 58) (by decide +kernel) (by decide +kernel), sh_pin (q := (yX13_firstOf, 39)) (i := 59) (by decide +kernel) (by decide +kernel)⟩
theorem yy_X13_goes : sh_Y yX13_goes cX13_goes 2 none 1 := ⟨sh_t1 (i := 14) (by decide +kernel) (by decide +kernel), sh_t7 (i := 44) (by decide +kernel) (by decide +kernel), by decide, by decide +kernel⟩
theorem yv_X13_goes : sh_YV yX13_goes := ⟨sh_t7 (i := 43) (by decide +kernel) (by decide +kernel), sh_pin (q := (yX13_goes, 39)) (i := 56) (by decide +kernel) (by decide +kernel)⟩
theorem yy_X13_isInBlock : sh_Y yX13_isInBlock cX13_isInBlock 5 (some .boolean) 2 := ⟨sh_t1 (i := 14) (by decide +kernel) (by decide +kernel), sh_t7 (i := 9) (by decide +kernel) (by decide +kernel), by decide, by decide +kernel⟩
theorem yv_X13_isInBlock : sh_YV yX13_isInBlock := ⟨sh_t7 (i := 8) (by decide +kernel) (by decide +kernel), sh_pin (q := (yX13_isInBlock, 39)) (i := 52) (by decide +kernel) (by decide +kernel)⟩
theorem yy_X13_seeks : sh_Y yX13_seeks cX13_seeks 4 (some .boolean) 1 := ⟨sh_t1 (i := 14) (by decide +kernel) (by decide +kernel), sh_t6 (i := 237) (by decide +kernel) (by decide +kernel), by decide, by decide +kernel⟩
theorem yv_X13_seeks : sh_YV yX13_seeks := ⟨sh_t6 (i := 236) (by decide +kernel) (by decide +kernel), sh_pin (q := (yX13_seeks, 39)) (i := 49) (by decide +kernel) (by decide +kernel)⟩
theorem yy_X13_emptySlot : sh_Y yX13_emptySlot cX13_emptySlot 3 (some .int) 1 := ⟨sh_t1 (i := 14) (by decide +kernel) (by decide +kernel), sh_t7 (i := 79) (by decide +kernel) (by decide +kernel), by decide, by decide +kernel⟩
theorem yv_X13_emptySlot : sh_YV yX13_emptySlot := ⟨sh_t7 (i := 78) (by decide +kernel) (by decide +kernel), sh_pin (q := (yX13_emptySlot, 39)) (i := 64) (by decide +kernel) (by decide +kernel)⟩
theorem yy_X13_aboveOf : sh_Y yX13_aboveOf cX13_aboveOf 4 (some .int) 1 := ⟨sh_t1 (i := 14) (by decide +kernel) (by decide +kernel), sh_t7 (i := 83) (by decide +kernel) (by decide +kernel), by decide, by decide +kernel⟩
theorem yv_X13_aboveOf : sh_YV yX13_aboveOf := ⟨sh_t7 (i := 82) (by decide +kernel) (by decide +kernel), sh_pin (q := (yX13_aboveOf, 39)) (i := 65) (by decide +kernel) (by decide +kernel)⟩
theorem yy_X13_rowOf : sh_Y yX13_rowOf cX13_rowOf 4 (some .int) 2 := ⟨sh_t1 (i := 14) (by decide +kernel) (by decide +kernel), sh_t7 (i := 115) (by decide +kernel) (by decide +kernel), by decide, by decide +kernel⟩
theorem yv_X13_rowOf : sh_YV yX13_rowOf := ⟨sh_t7 (i := 114) (by decide +kernel) (by decide +kernel), sh_pin (q := (yX13_rowOf, 39)) (i := 73) (by decide +kernel) (by decide +kernel)⟩
theorem yy_X13_needs : sh_Y yX13_needs cX13_needs 2 (some .int) 0 := ⟨sh_t1 (i := 14) (by decide +kernel) (by decide +kernel), sh_t7 (i := 75) (by decide +kernel) (by decide +kernel), by decide, by decide +kernel⟩
theorem yv_X13_needs : sh_YV yX13_needs := ⟨sh_t7 (i := 74) (by decide +kernel) (by decide +kernel), sh_pin (q := (yX13_needs, 39)) (i := 63) (by decide +kernel) (by decide +kernel)⟩
theorem yy_X13_takesBlock : sh_Y yX13_takesBlock cX13_takesBlock 3 (some .int) 1 := ⟨sh_t1 (i := 14) (by decide +kernel) (by decide +kernel), sh_t7 (i := 99) (by decide +kernel) (by decide +kernel), by decide, by decide +kernel⟩
theorem yv_X13_takesBlock : sh_YV yX13_takesBlock := ⟨sh_t7 (i := 98) (by decide +kernel) (by decide +kernel), sh_pin (q := (yX13_takesBlock, 39)) (i := 69) (by decide +kernel) (by decide +kernel)⟩
theorem yy_X13_lays : sh_Y yX13_lays cX13_lays 6 none 4 := ⟨sh_t1 (i := 14) (by decide +kernel) (by decide +kernel), sh_t7 (i := 87) (by decide +kernel) (by decide +kernel), by decide, by decide +kernel⟩
theorem yv_X13_lays : sh_YV yX13_lays := ⟨sh_t7 (i := 86) (by decide +kernel) (by decide +kernel), sh_pin (q := (yX13_lays, 39)) (i := 66) (by decide +kernel) (by decide +kernel)⟩
theorem yy_X13_empties : sh_Y yX13_empties cX13_empties 3 none 1 := ⟨sh_t1 (i := 14) (by decide +kernel) (by decide +kernel), sh_t7 (i := 107) (by decide +kernel) (by decide +kernel), by decide, by decide +kernel⟩
theorem yv_X13_empties : sh_YV yX13_empties := ⟨sh_t7 (i := 106) (by decide +kernel) (by decide +kernel), sh_pin (q := (yX13_empties, 39)) (i := 71) (by decide +kernel) (by decide +kernel)⟩
theorem yy_X13_laysRow : sh_Y yX13_laysRow cX13_laysRow 6 none 5 := ⟨sh_t1 (i := 14) (by decide +kernel) (by decide +kernel), sh_t7 (i := 123) (by decide +kernel) (by decide +kernel), by decide, by decide +kernel⟩
theorem yv_X13_laysRow : sh_YV yX13_laysRow := ⟨sh_t7 (i := 122) (by decide +kernel) (by decide +kernel), sh_pin (q := (yX13_laysRow, 39)) (i := 75) (by decide +kernel) (by decide +kernel)⟩
theorem yy_X13_copiesRow : sh_Y yX13_copiesRow cX13_copiesRow 5 none 4 := ⟨sh_t1 (i := 14) (by decide +kernel) (by decide +kernel), sh_t7 (i := 119) (by decide +kernel) (by decide +kernel), by decide, by decide +kernel⟩
theorem yv_X13_copiesRow : sh_YV yX13_copiesRow := ⟨sh_t7 (i := 118) (by decide +kernel) (by decide +kernel), sh_pin (q := (yX13_copiesRow, 39)) (i := 74) (by decide +kernel) (by decide +kernel)⟩
theorem yy_X13_sorts : sh_Y yX13_sorts cX13_sorts 6 none 3 := ⟨sh_t1 (i := 14) (by decide +kernel) (by decide +kernel), sh_t7 (i := 95) (by decide +kernel) (by decide +kernel), by decide, by decide +kernel⟩
theorem yv_X13_sorts : sh_YV yX13_sorts := ⟨sh_t7 (i := 94) (by decide +kernel) (by decide +kernel), sh_pin (q := (yX13_sorts, 39)) (i := 68) (by decide +kernel) (by decide +kernel)⟩
theorem yy_X13_fills : sh_Y yX13_fills cX13_fills 5 none 3 := ⟨sh_t1 (i := 14) (by decide +kernel) (by decide +kernel), sh_t7 (i := 103) (by decide +kernel) (by decide +kernel), by decide, by decide +kernel⟩
theorem yv_X13_fills : sh_YV yX13_fills := ⟨sh_t7 (i := 102) (by decide +kernel) (by decide +kernel), sh_pin (q := (yX13_fills, 39)) (i := 70) (by decide +kernel) (by decide +kernel)⟩
theorem yy_X13_comesBehind : sh_Y yX13_comesBehind cX13_comesBehind 8 none 5 := ⟨sh_t1 (i := 14) (by decide +kernel) (by decide +kernel), sh_t7 (i := 111) (by decide +kernel) (by decide +kernel), by decide, by decide +kernel⟩
theorem yv_X13_comesBehind : sh_YV yX13_comesBehind := ⟨sh_t7 (i := 110) (by decide +kernel) (by decide +kernel), sh_pin (q := (yX13_comesBehind, 39)) (i := 72) (by decide +kernel) (by decide +kernel)⟩
theorem yy_X13_parts : sh_Y yX13_parts cX13_parts 7 none 1 := ⟨sh_t1 (i := 14) (by decide +kernel) (by decide +kernel), sh_t7 (i := 127) (by decide +kernel) (by decide +kernel), by decide, by decide +kernel⟩
theorem yv_X13_parts : sh_YV yX13_parts := ⟨sh_t7 (i := 126) (by decide +kernel) (by decide +kernel), sh_pin (q := (yX13_parts, 39)) (i := 76) (by decide +kernel) (by decide +kernel)⟩
theorem yy_X13_splits : sh_Y yX13_splits cX13_splits 9 none 3 := ⟨sh_t1 (i := 14) (by decide +kernel) (by decide +kernel), sh_t7 (i := 91) (by decide +kernel) (by decide +kernel), by decide, by decide +kernel⟩
theorem yv_X13_splits : sh_YV yX13_splits := ⟨sh_t7 (i := 90) (by decide +kernel) (by decide +kernel), sh_pin (q := (yX13_splits, 39)) (i := 67) (by decide +kernel) (by decide +kernel)⟩
theorem yy_X13_puts : sh_Y yX13_puts cX13_puts 6 (some .int) 2 := ⟨sh_t1 (i := 14) (by decide +kernel) (by decide +kernel), sh_t7 (i := 71) (by decide +kernel) (by decide +kernel), by decide, by decide +kernel⟩
theorem yv_X13_puts : sh_YV yX13_puts := ⟨sh_t7 (i := 70) (by decide +kernel) (by decide +kernel), sh_pin (q := (yX13_puts, 39)) (i := 62) (by decide +kernel) (by decide +kernel)⟩
theorem yy_X13_put0 : sh_Y yX13_put0 cX13_put0 4 (some .int) 2 := ⟨sh_t1 (i := 14) (by decide +kernel) (by decide +kernel), sh_t6 (i := 233) (by decide +kernel) (by decide +kernel), by decide, by decide +kernel⟩
theorem yv_X13_put0 : sh_YV yX13_put0 := ⟨sh_t6 (i := 232) (by decide +kernel) (by decide +kernel), sh_pin (q := (yX13_put0, 39)) (i := 48) (by decide +kernel) (by decide +kernel)⟩
theorem yy_X13_cut0 : sh_Y yX13_cut0 cX13_cut0 3 (some .int) 1 := ⟨sh_t1 (i := 14) (by decide +kernel) (by decide +kernel), sh_t7 (i := 132) (by decide +kernel) (by decide +kernel), by decide, by decide +kernel⟩
theorem yv_X13_cut0 : sh_YV yX13_cut0 := ⟨sh_t7 (i := 131) (by decide +kernel) (by decide +kernel), sh_pin (q := (yX13_cut0, 39)) (i := 77) (by decide +kernel) (by decide +kernel)⟩
theorem yy_X13_turn0 : sh_Y yX13_turn0 cX13_turn0 11 (some .int) 2 := ⟨sh_t1 (i := 14) (by decide +kernel) (by decide +kernel), sh_t7 (i := 137) (by decide +kernel) (by decide +kernel), by decide, by decide +kernel⟩
theorem yv_X13_turn0 : sh_YV yX13_turn0 := ⟨sh_t7 (i := 136) (by decide +kernel) (by decide +kernel), sh_pin (q := (yX13_turn0, 39)) (i := 78) (by decide +kernel) (by decide +kernel)⟩
theorem yy_X13_leavesFor : sh_Y yX13_leavesFor cX13_leavesFor 1 (some .int) 1 := ⟨sh_t1 (i := 14) (by decide +kernel) (by decide +kernel), sh_t7 (i := 153) (by decide +kernel) (by decide +kernel), by decide, by decide +kernel⟩
theorem ys_X13_leavesFor : Cond.static yX13_leavesFor ∈ sh_ws := sh_t7 (i := 152) (by decide +kernel) (by decide +kernel)
theorem yy_X13_sortsAll : sh_Y yX13_sortsAll cX13_sortsAll 5 none 3 := ⟨sh_t1 (i := 14) (by decide +kernel) (by decide +kernel), sh_t7 (i := 150) (by decide +kernel) (by decide +kernel), by decide, by decide +kernel⟩
theorem yv_X13_sortsAll : sh_YV yX13_sortsAll := ⟨sh_t7 (i := 149) (by decide +kernel) (by decide +kernel), sh_pin (q := (yX13_sortsAll, 39)) (i := 81) (by decide +kernel) (by decide +kernel)⟩
theorem yy_X13_areTwoOne : sh_Y yX13_areTwoOne cX13_areTwoOne 3 (some .boolean) 0 := ⟨sh_t1 (i := 14) (by decide +kernel) (by decide +kernel), sh_t7 (i := 157) (by decide +kernel) (by decide +kernel), by decide, by decide +kernel⟩
theorem yv_X13_areTwoOne : sh_YV yX13_areTwoOne := ⟨sh_t7 (i := 156) (by decide +kernel) (by decide +kernel), sh_pin (q := (yX13_areTwoOne, 39)) (i := 82) (by decide +kernel) (by decide +kernel)⟩
theorem yy_X13_limitOf : sh_Y yX13_limitOf cX13_limitOf 2 (some .int) 1 := ⟨sh_t1 (i := 14) (by decide +kernel) (by decide +kernel), sh_t7 (i := 161) (by decide +kernel) (by decide +kernel), by decide, by decide +kernel⟩
theorem yv_X13_limitOf : sh_YV yX13_limitOf := ⟨sh_t7 (i := 160) (by decide +kernel) (by decide +kernel), sh_pin (q := (yX13_limitOf, 39)) (i := 83) (by decide +kernel) (by decide +kernel)⟩
theorem yy_X13_markOf : sh_Y yX13_markOf cX13_markOf 2 (some .int) 1 := ⟨sh_t1 (i := 14) (by decide +kernel) (by decide +kernel), sh_t7 (i := 165) (by decide +kernel) (by decide +kernel), by decide, by decide +kernel⟩
theorem yv_X13_markOf : sh_YV yX13_markOf := ⟨sh_t7 (i := 164) (by decide +kernel) (by decide +kernel), sh_pin (q := (yX13_markOf, 39)) (i := 84) (by decide +kernel) (by decide +kernel)⟩
theorem yy_X13_build0 : sh_Y yX13_build0 cX13_build0 7 (some .int) 3 := ⟨sh_t1 (i := 14) (by decide +kernel) (by decide +kernel), sh_t7 (i := 146) (by decide +kernel) (by decide +kernel), by decide, by decide +kernel⟩
theorem yv_X13_build0 : sh_YV yX13_build0 := ⟨sh_t7 (i := 145) (by decide +kernel) (by decide +kernel), sh_pin (q := (yX13_build0, 39)) (i := 80) (by decide +kernel) (by decide +kernel)⟩
theorem yy_X13_tune0 : sh_Y yX13_tune0 cX13_tune0 5 (some .int) 2 := ⟨sh_t1 (i := 14) (by decide +kernel) (by decide +kernel), sh_t7 (i := 142) (by decide +kernel) (by decide +kernel), by decide, by decide +kernel⟩
theorem yv_X13_tune0 : sh_YV yX13_tune0 := ⟨sh_t7 (i := 141) (by decide +kernel) (by decide +kernel), sh_pin (q := (yX13_tune0, 39)) (i := 79) (by decide +kernel) (by decide +kernel)⟩
theorem yy_X13_tear0 : sh_Y yX13_tear0 cX13_tear0 2 (some .int) 1 := ⟨sh_t1 (i := 14) (by decide +kernel) (by decide +kernel), sh_t7 (i := 173) (by decide +kernel) (by decide +kernel), by decide, by decide +kernel⟩
theorem yv_X13_tear0 : sh_YV yX13_tear0 := ⟨sh_t7 (i := 172) (by decide +kernel) (by decide +kernel), sh_pin (q := (yX13_tear0, 39)) (i := 85) (by decide +kernel) (by decide +kernel)⟩
theorem yy_X13_putsAside : sh_Y yX13_putsAside cX13_putsAside 2 none 0 := ⟨sh_t1 (i := 14) (by decide +kernel) (by decide +kernel), sh_t6 (i := 191) (by decide +kernel) (by decide +kernel), by decide, by decide +kernel⟩
theorem yv_X13_putsAside : sh_YV yX13_putsAside := ⟨sh_t6 (i := 190) (by decide +kernel) (by decide +kernel), sh_pin (q := (yX13_putsAside, 39)) (i := 39) (by decide +kernel) (by decide +kernel)⟩
theorem yy_X13_comesBack : sh_Y yX13_comesBack cX13_comesBack 2 none 0 := ⟨sh_t1 (i := 14) (by decide +kernel) (by decide +kernel), sh_t7 (i := 178) (by decide +kernel) (by decide +kernel), by decide, by decide +kernel⟩
theorem yv_X13_comesBack : sh_YV yX13_comesBack := ⟨sh_t7 (i := 177) (by decide +kernel) (by decide +kernel), sh_pin (q := (yX13_comesBack, 39)) (i := 86) (by decide +kernel) (by decide +kernel)⟩
theorem yy_X13_remembers : sh_Y yX13_remembers cX13_remembers 2 none 0 := ⟨sh_t1 (i := 14) (by decide +kernel) (by decide +kernel), sh_t7 (i := 202) (by decide +kernel) (by decide +kernel), by decide, by decide +kernel⟩
theorem yv_X13_remembers : sh_YV yX13_remembers := ⟨sh_t7 (i := 201) (by decide +kernel) (by decide +kernel), sh_pin (q := (yX13_remembers, 39)) (i := 89) (by decide +kernel) (by decide +kernel)⟩
theorem yy_X13_isDone : sh_Y yX13_isDone cX13_isDone 3 (some .boolean) 2 := ⟨sh_t1 (i := 14) (by decide +kernel) (by decide +kernel), sh_t7 (i := 198) (by decide +kernel) (by decide +kernel), by decide, by decide +kernel⟩
theorem yv_X13_isDone : sh_YV yX13_isDone := ⟨sh_t7 (i := 197) (by decide +kernel) (by decide +kernel), sh_pin (q := (yX13_isDone, 39)) (i := 88) (by decide +kernel) (by decide +kernel)⟩
theorem yy_X13_feed : sh_Y yX13_feed cX13_feed 8 (some .int) 5 := ⟨sh_t1 (i := 14) (by decide +kernel) (by decide +kernel), sh_t6 (i := 172) (by decide +kernel) (by decide +kernel), by decide, by decide +kernel⟩
theorem yv_X13_feed : sh_YV yX13_feed := ⟨sh_t6 (i := 170) (by decide +kernel) (by decide +kernel), sh_t6 (i := 171) (by decide +kernel) (by decide +kernel)⟩
theorem yy_X13_end : sh_Y yX13_end cX13_end 2 (some .boolean) 1 := ⟨sh_t1 (i := 14) (by decide +kernel) (by decide +kernel), sh_t6 (i := 176) (by decide +kernel) (by decide +kernel), by decide, by decide +kernel⟩
theorem yv_X13_end : sh_YV yX13_end := ⟨sh_t6 (i := 174) (by decide +kernel) (by decide +kernel), sh_t6 (i := 175) (by decide +kernel) (by decide +kernel)⟩
theorem yy_X13_begins : sh_Y yX13_begins cX13_begins 1 none 0 := ⟨sh_t1 (i := 14) (by decide +kernel) (by decide +kernel), sh_t6 (i := 187) (by decide +kernel) (by decide +kernel), by decide, by decide +kernel⟩
theorem yv_X13_begins : sh_YV yX13_begins := ⟨sh_t6 (i := 186) (by decide +kernel) (by decide +kernel), sh_pin (q := (yX13_begins, 39)) (i := 38) (by decide +kernel) (by decide +kernel)⟩
theorem yy_X13_here : sh_Y yX13_here cX13_here 1 (some .int) 0 := ⟨sh_t1 (i := 14) (by decide +kernel) (by decide +kernel), sh_t6 (i := 199) (by decide +kernel) (by decide +kernel), by decide, by decide +kernel⟩
theorem yv_X13_here : sh_YV yX13_here := ⟨sh_t6 (i := 198) (by decide +kernel) (by decide +kernel), sh_pin (q := (yX13_here, 39)) (i := 41) (by decide +kernel) (by decide +kernel)⟩
theorem yy_X13_wrong : sh_Y yX13_wrong cX13_wrong 2 none 1 := ⟨sh_t1 (i := 14) (by decide +kernel) (by decide +kernel), sh_t6 (i := 203) (by decide +kernel) (by decide +kernel), by decide, by decide +kernel⟩
theorem yv_X13_wrong : sh_YV yX13_wrong := ⟨sh_t6 (i := 202) (by decide +kernel) (by decide +kernel), sh_pin (q := (yX13_wrong, 39)) (i := 42) (by decide +kernel) (by decide +kernel)⟩
theorem yy_X13_isLetter : sh_Y yX13_isLetter cX13_isLetter 1 (some .boolean) 1 := ⟨sh_t1 (i := 14) (by decide +kernel) (by decide +kernel), sh_t6 (i := 219) (by decide +kernel) (by decide +kernel), by decide, by decide +kernel⟩
theorem ys_X13_isLetter : Cond.static yX13_isLetter ∈ sh_ws := sh_t6 (i := 218) (by decide +kernel) (by decide +kernel)
theorem yy_X13_wordEnd : sh_Y yX13_wordEnd cX13_wordEnd 2 (some .int) 0 := ⟨sh_t1 (i := 14) (by decide +kernel) (by decide +kernel), sh_t6 (i := 216) (by decide +kernel) (by decide +kernel), by decide, by decide +kernel⟩
theorem yv_X13_wordEnd : sh_YV yX13_wordEnd := ⟨sh_t6 (i := 215) (by decide +kernel) (by decide +kernel), sh_pin (q := (yX13_wordEnd, 39)) (i := 45) (by decide +kernel) (by decide +kernel)⟩
theorem yy_X13_has : sh_Y yX13_has cX13_has 4 (some .boolean) 1 := ⟨sh_t1 (i := 14) (by decide +kernel) (by decide +kernel), sh_t6 (i := 212) (by decide +kernel) (by decide +kernel), by decide, by decide +kernel⟩
theorem yv_X13_has : sh_YV yX13_has := ⟨sh_t6 (i := 211) (by decide +kernel) (by decide +kernel), sh_pin (q := (yX13_has, 39)) (i := 44) (by decide +kernel) (by decide +kernel)⟩
theorem yy_X13_name : sh_Y yX13_name cX13_name 5 (some .long) 0 := ⟨sh_t1 (i := 14) (by decide +kernel) (by decide +kernel), sh_t6 (i := 225) (by decide +kernel) (by decide +kernel), by decide, by decide +kernel⟩
theorem yv_X13_name : sh_YV yX13_name := ⟨sh_t6 (i := 224) (by decide +kernel) (by decide +kernel), sh_pin (q := (yX13_name, 39)) (i := 46) (by decide +kernel) (by decide +kernel)⟩
theorem yy_X13_number : sh_Y yX13_number cX13_number 5 (some .int) 2 := ⟨sh_t1 (i := 14) (by decide +kernel) (by decide +kernel), sh_t6 (i := 229) (by decide +kernel) (by decide +kernel), by decide, by decide +kernel⟩
theorem yv_X13_number : sh_YV yX13_number := ⟨sh_t6 (i := 228) (by decide +kernel) (by decide +kernel), sh_pin (q := (yX13_number, 39)) (i := 47) (by decide +kernel) (by decide +kernel)⟩
theorem yy_X13_comesMore : sh_Y yX13_comesMore cX13_comesMore 2 (some .boolean) 1 := ⟨sh_t1 (i := 14) (by decide +kernel) (by decide +kernel), sh_t6 (i := 195) (by decide +kernel) (by decide +kernel), by decide, by decide +kernel⟩
theorem yv_X13_comesMore : sh_YV yX13_comesMore := ⟨sh_t6 (i := 194) (by decide +kernel) (by decide +kernel), sh_pin (q := (yX13_comesMore, 39)) (i := 40) (by decide +kernel) (by decide +kernel)⟩
theorem yy_X13_act : sh_Y yX13_act cX13_act 7 (some .int) 0 := ⟨sh_t1 (i := 14) (by decide +kernel) (by decide +kernel), sh_t6 (i := 207) (by decide +kernel) (by decide +kernel), by decide, by decide +kernel⟩
theorem yv_X13_act : sh_YV yX13_act := ⟨sh_t6 (i := 206) (by decide +kernel) (by decide +kernel), sh_pin (q := (yX13_act, 39)) (i := 43) (by decide +kernel) (by decide +kernel)⟩
theorem yy_X13_acts : sh_Y yX13_acts cX13_acts 4 (some .int) 0 := ⟨sh_t1 (i := 14) (by decide +kernel) (by decide +kernel), sh_t6 (i := 183) (by decide +kernel) (by decide +kernel), by decide, by decide +kernel⟩
theorem yv_X13_acts : sh_YV yX13_acts := ⟨sh_t6 (i := 181) (by decide +kernel) (by decide +kernel), sh_t6 (i := 182) (by decide +kernel) (by decide +kernel)⟩
theorem yy_X13_isName : sh_Y yX13_isName cX13_isName 2 (some .boolean) 1 := ⟨sh_t1 (i := 14) (by decide +kernel) (by decide +kernel), sh_t7 (i := 194) (by decide +kernel) (by decide +kernel), by decide, by decide +kernel⟩
theorem yv_X13_isName : sh_YV yX13_isName := ⟨sh_t7 (i := 193) (by decide +kernel) (by decide +kernel), sh_pin (q := (yX13_isName, 39)) (i := 87) (by decide +kernel) (by decide +kernel)⟩
theorem yy_X13_fault : sh_Y yX13_fault cX13_fault 1 (some .int) 0 := ⟨sh_t1 (i := 14) (by decide +kernel) (by decide +kernel), sh_t7 (i := 182) (by decide +kernel) (by decide +kernel), by decide, by decide +kernel⟩
theorem yv_X13_fault : sh_YV yX13_fault := ⟨sh_t7 (i := 180) (by decide +kernel) (by decide +kernel), sh_t7 (i := 181) (by decide +kernel) (by decide +kernel)⟩
theorem yy_X13_why : sh_Y yX13_why cX13_why 1 (some .int) 0 := ⟨sh_t1 (i := 14) (by decide +kernel) (by decide +kernel), sh_t7 (i := 186) (by decide +kernel) (by decide +kernel), by decide, by decide +kernel⟩
theorem yv_X13_why : sh_YV yX13_why := ⟨sh_t7 (i := 184) (by decide +kernel) (by decide +kernel), sh_t7 (i := 185) (by decide +kernel) (by decide +kernel)⟩
theorem yy_X13_put : sh_Y yX13_put cX13_put 2 (some .int) 1 := ⟨sh_t1 (i := 14) (by decide +kernel) (by decide +kernel), sh_t7 (i := 190) (by decide +kernel) (by decide +kernel), by decide, by decide +kernel⟩
theorem yv_X13_put : sh_YV yX13_put := ⟨sh_t7 (i := 188) (by decide +kernel) (by decide +kernel), sh_t7 (i := 189) (by decide +kernel) (by decide +kernel)⟩
theorem yy_X13_cut : sh_Y yX13_cut cX13_cut 3 (some .int) 0 := ⟨sh_t1 (i := 14) (by decide +kernel) (by decide +kernel), sh_t7 (i := 206) (by decide +kernel) (by decide +kernel), by decide, by decide +kernel⟩
theorem yv_X13_cut : sh_YV yX13_cut := ⟨sh_t7 (i := 204) (by decide +kernel) (by decide +kernel), sh_t7 (i := 205) (by decide +kernel) (by decide +kernel)⟩
theorem yy_X13_turn : sh_Y yX13_turn cX13_turn 3 (some .int) 0 := ⟨sh_t1 (i := 14) (by decide +kernel) (by decide +kernel), sh_t7 (i := 210) (by decide +kernel) (by decide +kernel), by decide, by decide +kernel⟩
theorem yv_X13_turn : sh_YV yX13_turn := ⟨sh_t7 (i := 208) (by decide +kernel) (by decide +kernel), sh_t7 (i := 209) (by decide +kernel) (by decide +kernel)⟩
theorem yy_X13_build : sh_Y yX13_build cX13_build 1 (some .int) 0 := ⟨sh_t1 (i := 14) (by decide +kernel) (by decide +kernel), sh_t7 (i := 214) (by decide +kernel) (by decide +kernel), by decide, by decide +kernel⟩
theorem yv_X13_build : sh_YV yX13_build := ⟨sh_t7 (i := 212) (by decide +kernel) (by decide +kernel), sh_t7 (i := 213) (by decide +kernel) (by decide +kernel)⟩
theorem yy_X13_tune : sh_Y yX13_tune cX13_tune 5 (some .int) 2 := ⟨sh_t1 (i := 14) (by decide +kernel) (by decide +kernel), sh_t7 (i := 218) (by decide +kernel) (by decide +kernel), by decide, by decide +kernel⟩
theorem yv_X13_tune : sh_YV yX13_tune := ⟨sh_t7 (i := 216) (by decide +kernel) (by decide +kernel), sh_t7 (i := 217) (by decide +kernel) (by decide +kernel)⟩
theorem yy_X13_isBlock : sh_Y yX13_isBlock cX13_isBlock 1 (some .boolean) 1 := ⟨sh_t1 (i := 14) (by decide +kernel) (by decide +kernel), sh_t7 (i := 225) (by decide +kernel) (by decide +kernel), by decide, by decide +kernel⟩
theorem ys_X13_isBlock : Cond.static yX13_isBlock ∈ sh_ws := sh_t7 (i := 224) (by decide +kernel) (by decide +kernel)
theorem yy_X13_tear : sh_Y yX13_tear cX13_tear 2 (some .int) 1 := ⟨sh_t1 (i := 14) (by decide +kernel) (by decide +kernel), sh_t7 (i := 222) (by decide +kernel) (by decide +kernel), by decide, by decide +kernel⟩
theorem yv_X13_tear : sh_YV yX13_tear := ⟨sh_t7 (i := 220) (by decide +kernel) (by decide +kernel), sh_t7 (i := 221) (by decide +kernel) (by decide +kernel)⟩
theorem yy_X13_undo : sh_Y yX13_undo cX13_undo 2 (some .int) 0 := ⟨sh_t1 (i := 14) (by decide +kernel) (by decide +kernel), sh_t7 (i := 229) (by decide +kernel) (by decide +kernel), by decide, by decide +kernel⟩
theorem yv_X13_undo : sh_YV yX13_undo := ⟨sh_t7 (i := 227) (by decide +kernel) (by decide +kernel), sh_t7 (i := 228) (by decide +kernel) (by decide +kernel)⟩
theorem yy_X13_meets : sh_Y yX13_meets cX13_meets 4 (some .int) 1 := ⟨sh_t1 (i := 14) (by decide +kernel) (by decide +kernel), sh_t7 (i := 237) (by decide +kernel) (by decide +kernel), by decide, by decide +kernel⟩
theorem yv_X13_meets : sh_YV yX13_meets := ⟨sh_t7 (i := 236) (by decide +kernel) (by decide +kernel), sh_pin (q := (yX13_meets, 39)) (i := 90) (by decide +kernel) (by decide +kernel)⟩
theorem yy_X13_room : sh_Y yX13_room cX13_room 4 (some .int) 1 := ⟨sh_t1 (i := 14) (by decide +kernel) (by decide +kernel), sh_t8 (i := 1) (by decide +kernel) (by decide +kernel), by decide, by decide +kernel⟩
theorem yv_X13_room : sh_YV yX13_room := ⟨sh_t8 (i := 0) (by decide +kernel) (by decide +kernel), sh_pin (q := (yX13_room, 39)) (i := 91) (by decide +kernel) (by decide +kernel)⟩
theorem yy_X13_needsOf : sh_Y yX13_needsOf cX13_needsOf 3 (some .int) 1 := ⟨sh_t1 (i := 14) (by decide +kernel) (by decide +kernel), sh_t8 (i := 9) (by decide +kernel) (by decide +kernel), by decide, by decide +kernel⟩
theorem yv_X13_needsOf : sh_YV yX13_needsOf := ⟨sh_t8 (i := 8) (by decide +kernel) (by decide +kernel), sh_pin (q := (yX13_needsOf, 39)) (i := 93) (by decide +kernel) (by decide +kernel)⟩
theorem yy_X13_mate : sh_Y yX13_mate cX13_mate 7 (some .int) 1 := ⟨sh_t1 (i := 14) (by decide +kernel) (by decide +kernel), sh_t8 (i := 13) (by decide +kernel) (by decide +kernel), by decide, by decide +kernel⟩
theorem yv_X13_mate : sh_YV yX13_mate := ⟨sh_t8 (i := 12) (by decide +kernel) (by decide +kernel), sh_pin (q := (yX13_mate, 39)) (i := 94) (by decide +kernel) (by decide +kernel)⟩
theorem yy_X13_find : sh_Y yX13_find cX13_find 3 (some .int) 1 := ⟨sh_t1 (i := 14) (by decide +kernel) (by decide +kernel), sh_t7 (i := 233) (by decide +kernel) (by decide +kernel), by decide, by decide +kernel⟩
theorem yv_X13_find : sh_YV yX13_find := ⟨sh_t7 (i := 231) (by decide +kernel) (by decide +kernel), sh_t7 (i := 232) (by decide +kernel) (by decide +kernel)⟩
theorem yy_X13_blockOn : sh_Y yX13_blockOn cX13_blockOn 5 (some .int) 2 := ⟨sh_t1 (i := 14) (by decide +kernel) (by decide +kernel), sh_t8 (i := 21) (by decide +kernel) (by decide +kernel), by decide, by decide +kernel⟩
theorem yv_X13_blockOn : sh_YV yX13_blockOn := ⟨sh_t8 (i := 20) (by decide +kernel) (by decide +kernel), sh_pin (q := (yX13_blockOn, 39)) (i := 95) (by decide +kernel) (by decide +kernel)⟩
theorem yy_X13_way : sh_Y yX13_way cX13_way 2 (some .int) 1 := ⟨sh_t1 (i := 14) (by decide +kernel) (by decide +kernel), sh_t8 (i := 17) (by decide +kernel) (by decide +kernel), by decide, by decide +kernel⟩
theorem yv_X13_way : sh_YV yX13_way := ⟨sh_t8 (i := 15) (by decide +kernel) (by decide +kernel), sh_t8 (i := 16) (by decide +kernel) (by decide +kernel)⟩
theorem yy_X13_block : sh_Y yX13_block cX13_block 3 (some .int) 2 := ⟨sh_t1 (i := 14) (by decide +kernel) (by decide +kernel), sh_t8 (i := 25) (by decide +kernel) (by decide +kernel), by decide, by decide +kernel⟩
theorem yv_X13_block : sh_YV yX13_block := ⟨sh_t8 (i := 23) (by decide +kernel) (by decide +kernel), sh_t8 (i := 24) (by decide +kernel) (by decide +kernel)⟩
theorem yy_X13_hasEntry : sh_Y yX13_hasEntry cX13_hasEntry 3 (some .boolean) 2 := ⟨sh_t1 (i := 14) (by decide +kernel) (by decide +kernel), sh_t8 (i := 36) (by decide +kernel) (by decide +kernel), by decide, by decide +kernel⟩
theorem yv_X13_hasEntry : sh_YV yX13_hasEntry := ⟨sh_t8 (i := 35) (by decide +kernel) (by decide +kernel), sh_pin (q := (yX13_hasEntry, 39)) (i := 96) (by decide +kernel) (by decide +kernel)⟩
theorem yy_X13_isPlace : sh_Y yX13_isPlace cX13_isPlace 2 (some .boolean) 2 := ⟨sh_t1 (i := 14) (by decide +kernel) (by decide +kernel), sh_t8 (i := 32) (by decide +kernel) (by decide +kernel), by decide, by decide +kernel⟩
theorem ys_X13_isPlace : Cond.static yX13_isPlace ∈ sh_ws := sh_t8 (i := 31) (by decide +kernel) (by decide +kernel)
theorem yy_X13_entry : sh_Y yX13_entry cX13_entry 6 (some .int) 3 := ⟨sh_t1 (i := 14) (by decide +kernel) (by decide +kernel), sh_t8 (i := 29) (by decide +kernel) (by decide +kernel), by decide, by decide +kernel⟩
theorem yv_X13_entry : sh_YV yX13_entry := ⟨sh_t8 (i := 27) (by decide +kernel) (by decide +kernel), sh_t8 (i := 28) (by decide +kernel) (by decide +kernel)⟩
theorem yy_X13_letter : sh_Y yX13_letter cX13_letter 6 (some .int) 3 := ⟨sh_t1 (i := 14) (by decide +kernel) (by decide +kernel), sh_t8 (i := 40) (by decide +kernel) (by decide +kernel), by decide, by decide +kernel⟩
theorem yv_X13_letter : sh_YV yX13_letter := ⟨sh_t8 (i := 38) (by decide +kernel) (by decide +kernel), sh_t8 (i := 39) (by decide +kernel) (by decide +kernel)⟩
theorem yy_X13_row : sh_Y yX13_row cX13_row 4 (some .int) 3 := ⟨sh_t1 (i := 14) (by decide +kernel) (by decide +kernel), sh_t8 (i := 44) (by decide +kernel) (by decide +kernel), by decide, by decide +kernel⟩
theorem yv_X13_row : sh_YV yX13_row := ⟨sh_t8 (i := 42) (by decide +kernel) (by decide +kernel), sh_t8 (i := 43) (by decide +kernel) (by decide +kernel)⟩
theorem yy_X13_leaf : sh_Y yX13_leaf cX13_leaf 2 (some .int) 1 := ⟨sh_t1 (i := 14) (by decide +kernel) (by decide +kernel), sh_t8 (i := 48) (by decide +kernel) (by decide +kernel), by decide, by decide +kernel⟩
theorem yv_X13_leaf : sh_YV yX13_leaf := ⟨sh_t8 (i := 46) (by decide +kernel) (by decide +kernel), sh_t8 (i := 47) (by decide +kernel) (by decide +kernel)⟩
theorem yy_X13_crowdBy : sh_Y yX13_crowdBy cX13_crowdBy 5 (some .int) 1 := ⟨sh_t1 (i := 14) (by decide +kernel) (by decide +kernel), sh_t8 (i := 56) (by decide +kernel) (by decide +kernel), by decide, by decide +kernel⟩
theorem yv_X13_crowdBy : sh_YV yX13_crowdBy := ⟨sh_t8 (i := 55) (by decide +kernel) (by decide +kernel), sh_pin (q := (yX13_crowdBy, 39)) (i := 97) (by decide +kernel) (by decide +kernel)⟩
theorem yy_X13_chain : sh_Y yX13_chain cX13_chain 3 (some .int) 0 := ⟨sh_t1 (i := 14) (by decide +kernel) (by decide +kernel), sh_t8 (i := 63) (by decide +kernel) (by decide +kernel), by decide, by decide +kernel⟩
theorem yv_X13_chain : sh_YV yX13_chain := ⟨sh_t8 (i := 62) (by decide +kernel) (by decide +kernel), sh_pin (q := (yX13_chain, 39)) (i := 98) (by decide +kernel) (by decide +kernel)⟩
theorem yy_X13_leafBy : sh_Y yX13_leafBy cX13_leafBy 5 (some .int) 1 := ⟨sh_t1 (i := 14) (by decide +kernel) (by decide +kernel), sh_t8 (i := 71) (by decide +kernel) (by decide +kernel), by decide, by decide +kernel⟩
theorem yv_X13_leafBy : sh_YV yX13_leafBy := ⟨sh_t8 (i := 70) (by decide +kernel) (by decide +kernel), sh_pin (q := (yX13_leafBy, 39)) (i := 100) (by decide +kernel) (by decide +kernel)⟩
theorem yy_X13_strays : sh_Y yX13_strays cX13_strays 4 (some .int) 0 := ⟨sh_t1 (i := 14) (by decide +kernel) (by decide +kernel), sh_t8 (i := 75) (by decide +kernel) (by decide +kernel), by decide, by decide +kernel⟩
theorem yv_X13_strays : sh_YV yX13_strays := ⟨sh_t8 (i := 74) (by decide +kernel) (by decide +kernel), sh_pin (q := (yX13_strays, 39)) (i := 101) (by decide +kernel) (by decide +kernel)⟩
theorem yy_X13_fullest : sh_Y yX13_fullest cX13_fullest 3 (some .int) 0 := ⟨sh_t1 (i := 14) (by decide +kernel) (by decide +kernel), sh_t8 (i := 79) (by decide +kernel) (by decide +kernel), by decide, by decide +kernel⟩
theorem yv_X13_fullest : sh_YV yX13_fullest := ⟨sh_t8 (i := 78) (by decide +kernel) (by decide +kernel), sh_pin (q := (yX13_fullest, 39)) (i := 102) (by decide +kernel) (by decide +kernel)⟩
theorem yy_X13_empty : sh_Y yX13_empty cX13_empty 2 (some .int) 0 := ⟨sh_t1 (i := 14) (by decide +kernel) (by decide +kernel), sh_t8 (i := 83) (by decide +kernel) (by decide +kernel), by decide, by decide +kernel⟩
theorem yv_X13_empty : sh_YV yX13_empty := ⟨sh_t8 (i := 82) (by decide +kernel) (by decide +kernel), sh_pin (q := (yX13_empty, 39)) (i := 103) (by decide +kernel) (by decide +kernel)⟩
theorem yy_X13_shape : sh_Y yX13_shape cX13_shape 2 (some .int) 1 := ⟨sh_t1 (i := 14) (by decide +kernel) (by decide +kernel), sh_t8 (i := 52) (by decide +kernel) (by decide +kernel), by decide, by decide +kernel⟩
theorem yv_X13_shape : sh_YV yX13_shape := ⟨sh_t8 (i := 50) (by decide +kernel) (by decide +kernel), sh_t8 (i := 51) (by decide +kernel) (by decide +kernel)⟩
theorem yy_X13_crowds : sh_Y yX13_crowds cX13_crowds 2 (some .int) 1 := ⟨sh_t1 (i := 14) (by decide +kernel) (by decide +kernel), sh_t8 (i := 87) (by decide +kernel) (by decide +kernel), by decide, by decide +kernel⟩
theorem yv_X13_crowds : sh_YV yX13_crowds := ⟨sh_t8 (i := 85) (by decide +kernel) (by decide +kernel), sh_t8 (i := 86) (by decide +kernel) (by decide +kernel)⟩
theorem yy_X13_best : sh_Y yX13_best cX13_best 7 (some .int) 2 := ⟨sh_t1 (i := 14) (by decide +kernel) (by decide +kernel), sh_t8 (i := 91) (by decide +kernel) (by decide +kernel), by decide, by decide +kernel⟩
theorem yv_X13_best : sh_YV yX13_best := ⟨sh_t8 (i := 89) (by decide +kernel) (by decide +kernel), sh_t8 (i := 90) (by decide +kernel) (by decide +kernel)⟩
theorem yy_X13_isReader : sh_Y yX13_isReader cX13_isReader 1 (some .boolean) 1 := ⟨sh_t1 (i := 14) (by decide +kernel) (by decide +kernel), sh_t8 (i := 98) (by decide +kernel) (by decide +kernel), by decide, by decide +kernel⟩
theorem ys_X13_isReader : Cond.static yX13_isReader ∈ sh_ws := sh_t8 (i := 97) (by decide +kernel) (by decide +kernel)
theorem yy_X13_open : sh_Y yX13_open cX13_open 4 (some .boolean) 2 := ⟨sh_t1 (i := 14) (by decide +kernel) (by decide +kernel), sh_t8 (i := 95) (by decide +kernel) (by decide +kernel), by decide, by decide +kernel⟩
theorem yv_X13_open : sh_YV yX13_open := ⟨sh_t8 (i := 93) (by decide +kernel) (by decide +kernel), sh_t8 (i := 94) (by decide +kernel) (by decide +kernel)⟩
theorem yy_X13_next : sh_Y yX13_next cX13_next 5 (some .int) 1 := ⟨sh_t1 (i := 14) (by decide +kernel) (by decide +kernel), sh_t8 (i := 102) (by decide +kernel) (by decide +kernel), by decide, by decide +kernel⟩
theorem yv_X13_next : sh_YV yX13_next := ⟨sh_t8 (i := 100) (by decide +kernel) (by decide +kernel), sh_t8 (i := 101) (by decide +kernel) (by decide +kernel)⟩
theorem yy_X13_reader : sh_Y yX13_reader cX13_reader 3 (some .int) 2 := ⟨sh_t1 (i := 14) (by decide +kernel) (by decide +kernel), sh_t8 (i := 106) (by decide +kernel) (by decide +kernel), by decide, by decide +kernel⟩
theorem yv_X13_reader : sh_YV yX13_reader := ⟨sh_t8 (i := 104) (by decide +kernel) (by decide +kernel), sh_t8 (i := 105) (by decide +kernel) (by decide +kernel)⟩
theorem yy_X13_batch : sh_Y yX13_batch cX13_batch 3 (some .int) 2 := ⟨sh_t1 (i := 14) (by decide +kernel) (by decide +kernel), sh_t8 (i := 110) (by decide +kernel) (by decide +kernel), by decide, by decide +kernel⟩
theorem yv_X13_batch : sh_YV yX13_batch := ⟨sh_t8 (i := 108) (by decide +kernel) (by decide +kernel), sh_t8 (i := 109) (by decide +kernel) (by decide +kernel)⟩
theorem yy_X13_image : sh_Y yX13_image cX13_image 2 none 0 := ⟨sh_t1 (i := 14) (by decide +kernel) (by decide +kernel), sh_t8 (i := 114) (by decide +kernel) (by decide +kernel), by decide, by decide +kernel⟩
theorem yv_X13_image : sh_YV yX13_image := ⟨sh_t8 (i := 112) (by decide +kernel) (by decide +kernel), sh_t8 (i := 113) (by decide +kernel) (by decide +kernel)⟩
theorem yy_X13_back : sh_Y yX13_back cX13_back 2 (some .boolean) 0 := ⟨sh_t1 (i := 14) (by decide +kernel) (by decide +kernel), sh_t8 (i := 118) (by decide +kernel) (by decide +kernel), by decide, by decide +kernel⟩
theorem yv_X13_back : sh_YV yX13_back := ⟨sh_t8 (i := 116) (by decide +kernel) (by decide +kernel), sh_t8 (i := 117) (by decide +kernel) (by decide +kernel)⟩
theorem yy_X13_count : sh_Y yX13_count cX13_count 2 (some .int) 1 := ⟨sh_t1 (i := 14) (by decide +kernel) (by decide +kernel), sh_t8 (i := 122) (by decide +kernel) (by decide +kernel), by decide, by decide +kernel⟩
theorem yv_X13_count : sh_YV yX13_count := ⟨sh_t8 (i := 120) (by decide +kernel) (by decide +kernel), sh_t8 (i := 121) (by decide +kernel) (by decide +kernel)⟩
theorem kc_X12_358 : Cond.constant RX12 358 65535 ∈ sh_ws := sh_t3 (i := 158) (by decide +kernel) (by decide +kernel)
theorem kc_X8_126 : Cond.constant RX8 126 65535 ∈ sh_ws := sh_t5 (i := 229) (by decide +kernel) (by decide +kernel)
theorem kc_X13_109 : Cond.constant RX13 109 65535 ∈ sh_ws := sh_t7 (i := 40) (by decide +kernel) (by decide +kernel)
theorem kc_X12_362 : Cond.constantLong RX12 362 2314885530818453536 ∈ sh_ws := sh_t3 (i := 144) (by decide +kernel) (by decide +kernel)
theorem kc_X4_130 : Cond.constantLong RX4 130 2314885530818453536 ∈ sh_ws := sh_t3 (i := 210) (by decide +kernel) (by decide +kernel)
theorem nl_X12_11 : Cond.methodLinkNest RX12 11 yX9_init "SteadyShelf" ∈ sh_nest := by decide +kernel
theorem nl_X4_11 : Cond.methodLinkNest RX4 11 yX5_init "SteadyShelf" ∈ sh_nest := by decide +kernel
theorem nl_X4_20 : Cond.methodLinkNest RX4 20 yX11_init "SteadyShelf" ∈ sh_nest := by decide +kernel
theorem nl_X4_27 : Cond.methodLinkNest RX4 27 yX6_init "SteadyShelf" ∈ sh_nest := by decide +kernel
theorem nl_X12_77 : Cond.methodLinkNest RX12 77 yX2_init "SteadyShelf" ∈ sh_nest := by decide +kernel
theorem nl_X4_89 : Cond.methodLinkNest RX4 89 yX12_areOne "SteadyShelf" ∈ sh_nest := by decide +kernel
theorem nl_X7_60 : Cond.methodLinkNest RX7 60 yX12_hashBy "SteadyShelf" ∈ sh_nest := by decide +kernel
theorem nl_X4_242 : Cond.methodLinkNest RX4 242 yX12_groupsOf "SteadyShelf" ∈ sh_nest := by decide +kernel
theorem nl_X8_145 : Cond.methodLinkNest RX8 145 yX12_stirred "SteadyShelf" ∈ sh_nest := by decide +kernel
theorem nl_X8_122 : Cond.methodLinkNest RX8 122 yX12_hashBy "SteadyShelf" ∈ sh_nest := by decide +kernel
theorem nl_X8_77 : Cond.methodLinkNest RX8 77 yX12_groupsOf "SteadyShelf" ∈ sh_nest := by decide +kernel
