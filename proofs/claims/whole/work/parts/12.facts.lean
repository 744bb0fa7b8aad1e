def shC : List nh_Q := [.inr (8, [some (some 1), some (some 3), some (some 6), some (some 9), some (some 12), some (some 17), some (some 21), some (some 25), some (some 30), some (some 31), some (some 32), some none, some none, some none, some none, some (some 83), none]),
  .inr (6, [some (some 2), none, none, none, none, none]),
  .inl (.char, 600, none),
  .inr (2, [some (some 4), some (some 5), none, none, none]),
  .inl (.int, 12, none),
  .inl (.int, 12, none),
  .inr (2, [some (some 7), some (some 8), none, none, none]),
  .inl (.int, 12, none),
  .inl (.int, 12, none),
  .inr (2, [some (some 10), some (some 11), none, none, none]),
  .inl (.int, 12, none),
  .inl (.int, 12, none),
  .inr (7, [some (some 13), some (some 14), some (some 15), some (some 16), none]),
  .inl (.int, 9, none),
  .inl (.int, 9, none),
  .inl (.int, 9, none),
  .inl (.int, 9, none),
  .inr (5, [some (some 18), some (some 19), none, none, some (some 20)]),
  .inl (.int, 12, none),
  .inl (.int, 12, none),
  .inl (.int, 12, none),
  .inr (5, [some (some 22), some (some 23), none, none, some (some 24)]),
  .inl (.int, 12, none),
  .inl (.int, 12, none),
  .inl (.int, 12, none),
  .inr (0, [some (some 27), some (some 26), none, none]),
  .inl (.int, 7, none),
  .inr (4, [none, some (some 28), some (some 29)]),
  .inl (.int, 20, none),
  .inl (.int, 20, none),
  .inl (.int, 12, none),
  .inl (.int, 12, none),
  .inl (.int, 4096, none),
  .inr (3, [none, none, some (some 34), some (some 35), some (some 36), some (some 41), some (some 51), some (some 52), some (some 53), some (some 54)]),
  .inl (.int, 9, none),
  .inl (.int, 9, none),
  .inl (.array .int, 4, some 37),
  .inl (.int, 9, none),
  .inl (.int, 9, none),
  .inl (.int, 9, none),
  .inl (.int, 9, none),
  .inl (.array .int, 9, some 42),
  .inl (.int, 9, none),
  .inl (.int, 9, none),
  .inl (.int, 9, none),
  .inl (.int, 9, none),
  .inl (.int, 9, none),
  .inl (.int, 9, none),
  .inl (.int, 9, none),
  .inl (.int, 9, none),
  .inl (.int, 9, none),
  .inl (.int, 12, none),
  .inl (.int, 12, none),
  .inl (.int, 12, none),
  .inl (.int, 12, none),
  .inr (3, [none, none, some (some 56), some (some 57), some (some 58), some (some 63), some (some 73), some (some 74), some (some 75), some (some 76)]),
  .inl (.int, 9, none),
  .inl (.int, 9, none),
  .inl (.array .int, 4, some 59),
  .inl (.int, 9, none),
  .inl (.int, 9, none),
  .inl (.int, 9, none),
  .inl (.int, 9, none),
  .inl (.array .int, 9, some 64),
  .inl (.int, 9, none),
  .inl (.int, 9, none),
  .inl (.int, 9, none),
  .inl (.int, 9, none),
  .inl (.int, 9, none),
  .inl (.int, 9, none),
  .inl (.int, 9, none),
  .inl (.int, 9, none),
  .inl (.int, 9, none),
  .inl (.int, 12, none),
  .inl (.int, 12, none),
  .inl (.int, 12, none),
  .inl (.int, 12, none),
  .inr (4, [none, some (some 78), some (some 79)]),
  .inl (.int, 20, none),
  .inl (.int, 20, none),
  .inr (4, [none, some (some 81), some (some 82)]),
  .inl (.int, 20, none),
  .inl (.int, 20, none),
  .inr (1, [none, some (some 84), some (some 85), some (some 86), some (some 87), some (some 97), some (some 98), none]),
  .inl (.int, 2, none),
  .inl (.int, 2, none),
  .inl (.int, 12, none),
  .inl (.array .int, 9, some 88),
  .inl (.int, 9, none),
  .inl (.int, 9, none),
  .inl (.int, 9, none),
  .inl (.int, 9, none),
  .inl (.int, 9, none),
  .inl (.int, 9, none),
  .inl (.int, 9, none),
  .inl (.int, 9, none),
  .inl (.int, 9, none),
  .inl (.int, 9, none),
  .inr (5, [some (some 99), some (some 100), none, none, some (some 101)]),
  .inl (.int, 12, none),
  .inl (.int, 12, none),
  .inl (.int, 12, none)]
def shR : List nh_Q := [.inr (9, [some (some 1), some (some 2), some (some 3), some (some 4), some (some 5), some (some 6), some (some 7), some (some 8), some (some 9), some (some 10), some (some 11), none, none, some (some 12), none, some (some 13), none, none, none, none, none, none, some (some 14), some (some 15), some (some 16), some (some 17), none, some (some 18), some (some 19), some (some 20), some (some 21), none, some (some 22), some (some 23), none, some (some 24), some (some 25), none, some (some 26)]),
  .inl (.int, 78, none),
  .inl (.boolean, 2, none),
  .inl (.int, 108, none),
  .inl (.int, 162, none),
  .inl (.int, 24, none),
  .inl (.int, 24, none),
  .inl (.int, 24, none),
  .inl (.int, 24, none),
  .inl (.int, 4, none),
  .inl (.int, 40, none),
  .inl (.int, 40, none),
  .inl (.int, 12, none),
  .inl (.int, 600, none),
  .inl (.int, 81, none),
  .inl (.int, 9, none),
  .inl (.int, 9, none),
  .inl (.int, 20, none),
  .inl (.int, 12, none),
  .inl (.int, 12, none),
  .inl (.int, 12, none),
  .inl (.int, 12, none),
  .inl (.int, 9, none),
  .inl (.int, 9, none),
  .inl (.int, 5, none),
  .inl (.int, 4096, none),
  .inl (.int, 12, none)]
theorem sC_0 : shC[0]? = some (.inr (8, [some (some 1), some (some 3), some (some 6), some (some 9), some (some 12), some (some 17), some (some 21), some (some 25), some (some 30), some (some 31), some (some 32), some none, some none, some none, some none, some (some 83), none])) := rfl
theorem sC_1 : shC[1]? = some (.inr (6, [some (some 2), none, none, none, none, none])) := rfl
theorem sC_2 : shC[2]? = some (.inl (.char, 600, none)) := rfl
theorem sC_3 : shC[3]? = some (.inr (2, [some (some 4), some (some 5), none, none, none])) := rfl
theorem sC_4 : shC[4]? = some (.inl (.int, 12, none)) := rfl
theorem sC_5 : shC[5]? = some (.inl (.int, 12, none)) := rfl
theorem sC_6 : shC[6]? = some (.inr (2, [some (some 7), some (some 8), none, none, none])) := rfl
theorem sC_7 : shC[7]? = some (.inl (.int, 12, none)) := rfl
theorem sC_8 : shC[8]? = some (.inl (.int, 12, none)) := rfl
theorem sC_9 : shC[9]? = some (.inr (2, [some (some 10), some (some 11), none, none, none])) := rfl
theorem sC_10 : shC[10]? = some (.inl (.int, 12, none)) := rfl
theorem sC_11 : shC[11]? = some (.inl (.int, 12, none)) := rfl
theorem sC_12 : shC[12]? = some (.inr (7, [some (some 13), some (some 14), some (some 15), some (some 16), none])) := rfl
theorem sC_13 : shC[13]? = some (.inl (.int, 9, none)) := rfl
theorem sC_14 : shC[14]? = some (.inl (.int, 9, none)) := rfl
theorem sC_15 : shC[15]? = some (.inl (.int, 9, none)) := rfl
theorem sC_16 : shC[16]? = some (.inl (.int, 9, none)) := rfl
theorem sC_17 : shC[17]? = some (.inr (5, [some (some 18), some (some 19), none, none, some (some 20)])) := rfl
theorem sC_18 : shC[18]? = some (.inl (.int, 12, none)) := rfl
theorem sC_19 : shC[19]? = some (.inl (.int, 12, none)) := rfl
theorem sC_20 : shC[20]? = some (.inl (.int, 12, none)) := rfl
theorem sC_21 : shC[21]? = some (.inr (5, [some (some 22), some (some 23), none, none, some (some 24)])) := rfl
theorem sC_22 : shC[22]? = some (.inl (.int, 12, none)) := rfl
theorem sC_23 : shC[23]? = some (.inl (.int, 12, none)) := rfl
theorem sC_24 : shC[24]? = some (.inl (.int, 12, none)) := rfl
theorem sC_25 : shC[25]? = some (.inr (0, [some (some 27), some (some 26), none, none])) := rfl
theorem sC_26 : shC[26]? = some (.inl (.int, 7, none)) := rfl
theorem sC_27 : shC[27]? = some (.inr (4, [none, some (some 28), some (some 29)])) := rfl
theorem sC_28 : shC[28]? = some (.inl (.int, 20, none)) := rfl
theorem sC_29 : shC[29]? = some (.inl (.int, 20, none)) := rfl
theorem sC_30 : shC[30]? = some (.inl (.int, 12, none)) := rfl
theorem sC_31 : shC[31]? = some (.inl (.int, 12, none)) := rfl
theorem sC_32 : shC[32]? = some (.inl (.int, 4096, none)) := rfl
theorem sC_33 : shC[33]? = some (.inr (3, [none, none, some (some 34), some (some 35), some (some 36), some (some 41), some (some 51), some (some 52), some (some 53), some (some 54)])) := rfl
theorem sC_34 : shC[34]? = some (.inl (.int, 9, none)) := rfl
theorem sC_35 : shC[35]? = some (.inl (.int, 9, none)) := rfl
theorem sC_36 : shC[36]? = some (.inl (.array .int, 4, some 37)) := rfl
theorem sC_37 : shC[37]? = some (.inl (.int, 9, none)) := rfl
theorem sC_38 : shC[38]? = some (.inl (.int, 9, none)) := rfl
theorem sC_39 : shC[39]? = some (.inl (.int, 9, none)) := rfl
theorem sC_40 : shC[40]? = some (.inl (.int, 9, none)) := rfl
theorem sC_41 : shC[41]? = some (.inl (.array .int, 9, some 42)) := rfl
theorem sC_42 : shC[42]? = some (.inl (.int, 9, none)) := rfl
theorem sC_43 : shC[43]? = some (.inl (.int, 9, none)) := rfl
theorem sC_44 : shC[44]? = some (.inl (.int, 9, none)) := rfl
theorem sC_45 : shC[45]? = some (.inl (.int, 9, none)) := rfl
theorem sC_46 : shC[46]? = some (.inl (.int, 9, none)) := rfl
theorem sC_47 : shC[47]? = some (.inl (.int, 9, none)) := rfl
theorem sC_48 : shC[48]? = some (.inl (.int, 9, none)) := rfl
theorem sC_49 : shC[49]? = some (.inl (.int, 9, none)) := rfl
theorem sC_50 : shC[50]? = some (.inl (.int, 9, none)) := rfl
theorem sC_51 : shC[51]? = some (.inl (.int, 12, none)) := rfl
theorem sC_52 : shC[52]? = some (.inl (.int, 12, none)) := rfl
theorem sC_53 : shC[53]? = some (.inl (.int, 12, none)) := rfl
theorem sC_54 : shC[54]? = some (.inl (.int, 12, none)) := rfl
theorem sC_55 : shC[55]? = some (.inr (3, [none, none, some (some 56), some (some 57), some (some 58), some (some 63), some (some 73), some (some 74), some (some 75), some (some 76)])) := rfl
theorem sC_56 : shC[56]? = some (.inl (.int, 9, none)) := rfl
theorem sC_57 : shC[57]? = some (.inl (.int, 9, none)) := rfl
theorem sC_58 : shC[58]? = some (.inl (.array .int, 4, some 59)) := rfl
theorem sC_59 : shC[59]? = some (.inl (.int, 9, none)) := rfl
theorem sC_60 : shC[60]? = some (.inl (.int, 9, none)) := rfl
theorem sC_61 : shC[61]? = some (.inl (.int, 9, none)) := rfl
theorem sC_62 : shC[62]? = some (.inl (.int, 9, none)) := rfl
theorem sC_63 : shC[63]? = some (.inl (.array .int, 9, some 64)) := rfl
theorem sC_64 : shC[64]? = some (.inl (.int, 9, none)) := rfl
theorem sC_65 : shC[65]? = some (.inl (.int, 9, none)) := rfl
theorem sC_66 : shC[66]? = some (.inl (.int, 9, none)) := rfl
theorem sC_67 : shC[67]? = some (.inl (.int, 9, none)) := rfl
theorem sC_68 : shC[68]? = some (.inl (.int, 9, none)) := rfl
theorem sC_69 : shC[69]? = some (.inl (.int, 9, none)) := rfl
theorem sC_70 : shC[70]? = some (.inl (.int, 9, none)) := rfl
theorem sC_71 : shC[71]? = some (.inl (.int, 9, none)) := rfl
theorem sC_72 : shC[72]? = some (.inl (.int, 9, none)) := rfl
theorem sC_73 : shC[73]? = some (.inl (.int, 12, none)) := rfl
theorem sC_74 : shC[74]? = some (.inl (.int, 12, none)) := rfl
theorem sC_75 : shC[75]? = some (.inl (.int, 12, none)) := rfl
theorem sC_76 : shC[76]? = some (.inl (.int, 12, none)) := rfl
theorem sC_77 : shC[77]? = some (.inr (4, [none, some (some 78), some (some 79)])) := rfl
theorem sC_78 : shC[78]? = some (.inl (.int, 20, none)) := rfl
theorem sC_79 : shC[79]? = some (.inl (.int, 20, none)) := rfl
theorem sC_80 : shC[80]? = some (.inr (4, [none, some (some 81), some (some 82)])) := rfl
theorem sC_81 : shC[81]? = some (.inl (.int, 20, none)) := rfl
theorem sC_82 : shC[82]? = some (.inl (.int, 20, none)) := rfl
theorem sC_83 : shC[83]? = some (.inr (1, [none, some (some 84), some (some 85), some (some 86), some (some 87), some (some 97), some (some 98), none])) := rfl
theorem sC_84 : shC[84]? = some (.inl (.int, 2, none)) := rfl
theorem sC_85 : shC[85]? = some (.inl (.int, 2, none)) := rfl
theorem sC_86 : shC[86]? = some (.inl (.int, 12, none)) := rfl
theorem sC_87 : shC[87]? = some (.inl (.array .int, 9, some 88)) := rfl
theorem sC_88 : shC[88]? = some (.inl (.int, 9, none)) := rfl
theorem sC_89 : shC[89]? = some (.inl (.int, 9, none)) := rfl
theorem sC_90 : shC[90]? = some (.inl (.int, 9, none)) := rfl
theorem sC_91 : shC[91]? = some (.inl (.int, 9, none)) := rfl
theorem sC_92 : shC[92]? = some (.inl (.int, 9, none)) := rfl
theorem sC_93 : shC[93]? = some (.inl (.int, 9, none)) := rfl
theorem sC_94 : shC[94]? = some (.inl (.int, 9, none)) := rfl
theorem sC_95 : shC[95]? = some (.inl (.int, 9, none)) := rfl
theorem sC_96 : shC[96]? = some (.inl (.int, 9, none)) := rfl
theorem sC_97 : shC[97]? = some (.inl (.int, 9, none)) := rfl
theorem sC_98 : shC[98]? = some (.inr (5, [some (some 99), some (some 100), none, none, some (some 101)])) := rfl
theorem sC_99 : shC[99]? = some (.inl (.int, 12, none)) := rfl
theorem sC_100 : shC[100]? = some (.inl (.int, 12, none)) := rfl
theorem sC_101 : shC[101]? = some (.inl (.int, 12, none)) := rfl
theorem sR_0 : shR[0]? = some (.inr (9, [some (some 1), some (some 2), some (some 3), some (some 4), some (some 5), some (some 6), some (some 7), some (some 8), some (some 9), some (some 10), some (some 11), none, none, some (some 12), none, some (some 13), none, none, none, none, none, none, some (some 14), some (some 15), some (some 16), some (some 17), none, some (some 18), some (some 19), some (some 20), some (some 21), none, some (some 22), some (some 23), none, some (some 24), some (some 25), none, some (some 26)])) := rfl
theorem sR_1 : shR[1]? = some (.inl (.int, 78, none)) := rfl
theorem sR_2 : shR[2]? = some (.inl (.boolean, 2, none)) := rfl
theorem sR_3 : shR[3]? = some (.inl (.int, 108, none)) := rfl
theorem sR_4 : shR[4]? = some (.inl (.int, 162, none)) := rfl
theorem sR_5 : shR[5]? = some (.inl (.int, 24, none)) := rfl
theorem sR_6 : shR[6]? = some (.inl (.int, 24, none)) := rfl
theorem sR_7 : shR[7]? = some (.inl (.int, 24, none)) := rfl
theorem sR_8 : shR[8]? = some (.inl (.int, 24, none)) := rfl
theorem sR_9 : shR[9]? = some (.inl (.int, 4, none)) := rfl
theorem sR_10 : shR[10]? = some (.inl (.int, 40, none)) := rfl
theorem sR_11 : shR[11]? = some (.inl (.int, 40, none)) := rfl
theorem sR_12 : shR[12]? = some (.inl (.int, 12, none)) := rfl
theorem sR_13 : shR[13]? = some (.inl (.int, 600, none)) := rfl
theorem sR_14 : shR[14]? = some (.inl (.int, 81, none)) := rfl
theorem sR_15 : shR[15]? = some (.inl (.int, 9, none)) := rfl
theorem sR_16 : shR[16]? = some (.inl (.int, 9, none)) := rfl
theorem sR_17 : shR[17]? = some (.inl (.int, 20, none)) := rfl
theorem sR_18 : shR[18]? = some (.inl (.int, 12, none)) := rfl
theorem sR_19 : shR[19]? = some (.inl (.int, 12, none)) := rfl
theorem sR_20 : shR[20]? = some (.inl (.int, 12, none)) := rfl
theorem sR_21 : shR[21]? = some (.inl (.int, 12, none)) := rfl
theorem sR_22 : shR[22]? = some (.inl (.int, 9, none)) := rfl
theorem sR_23 : shR[23]? = some (.inl (.int, 9, none)) := rfl
theorem sR_24 : shR[24]? = some (.inl (.int, 5, none)) := rfl
theorem sR_25 : shR[25]? = some (.inl (.int, 4096, none)) := rfl
theorem sR_26 : shR[26]? = some (.inl (.int, 12, none)) := rfl
def kX0_sendOut : nh_K := (RX0, cX0_sendOut, 5, some .boolean, { frames := 1, cells := 0, slots := 0, locals := 24 }, shC)
def kX0_search : nh_K := (RX0, cX0_search, 8, none, { frames := 3, cells := 0, slots := 0, locals := 77 }, shC)
def kX0_turnToNext : nh_K := (RX0, cX0_turnToNext, 7, some .boolean, { frames := 1, cells := 0, slots := 0, locals := 23 }, shC)
def kX1_find : nh_K := (RX1, cX1_find, 7, none, { frames := 6, cells := 0, slots := 0, locals := 141 }, shC)
def kX1_moveOne : nh_K := (RX1, cX1_moveOne, 7, some .boolean, { frames := 4, cells := 0, slots := 0, locals := 91 }, shC)
def kX1_moveTwo : nh_K := (RX1, cX1_moveTwo, 5, some .boolean, { frames := 5, cells := 0, slots := 0, locals := 117 }, shC)
def kX1_hold : nh_K := (RX1, cX1_hold, 4, none, { frames := 0, cells := 0, slots := 0, locals := 0 }, shC)
def kX1_isInTime : nh_K := (RX1, cX1_isInTime, 4, some .boolean, { frames := 3, cells := 0, slots := 0, locals := 68 }, shC)
def kX2_begin : nh_K := (RX2, cX2_begin, 3, none, { frames := 0, cells := 0, slots := 0, locals := 0 }, shC)
def kX2_becomes : nh_K := (RX2, cX2_becomes, 2, none, { frames := 1, cells := 0, slots := 0, locals := 60 }, shC)
def kX2_partsAt : nh_K := (RX2, cX2_partsAt, 5, some .int, { frames := 0, cells := 0, slots := 0, locals := 0 }, shC)
def kX2_draw : nh_K := (RX2, cX2_draw, 2, some .int, { frames := 1, cells := 0, slots := 0, locals := 21 }, shC)
def kX3_learn : nh_K := (RX3, cX3_learn, 3, none, { frames := 7, cells := 0, slots := 0, locals := 150 }, shC)
def kX3_allParts : nh_K := (RX3, cX3_allParts, 1, some .int, { frames := 1, cells := 0, slots := 0, locals := 20 }, shC)
def kX3_canBeIn : nh_K := (RX3, cX3_canBeIn, 4, some .int, { frames := 1, cells := 0, slots := 0, locals := 21 }, shC)
def kX3_gainOf : nh_K := (RX3, cX3_gainOf, 4, some .int, { frames := 1, cells := 0, slots := 0, locals := 21 }, shC)
def kX3_shareOf : nh_K := (RX3, cX3_shareOf, 9, some .long, { frames := 1, cells := 0, slots := 0, locals := 21 }, shC)
def kX3_forget : nh_K := (RX3, cX3_forget, 2, none, { frames := 1, cells := 0, slots := 0, locals := 23 }, shC)
def kX3_learnHouse : nh_K := (RX3, cX3_learnHouse, 3, none, { frames := 4, cells := 0, slots := 0, locals := 82 }, shC)
def kX3_learnWay : nh_K := (RX3, cX3_learnWay, 5, none, { frames := 4, cells := 0, slots := 0, locals := 82 }, shC)
def kX3_learnPart : nh_K := (RX3, cX3_learnPart, 2, none, { frames := 6, cells := 0, slots := 0, locals := 129 }, shC)
def kX3_learnBehind : nh_K := (RX3, cX3_learnBehind, 5, some .int, { frames := 3, cells := 0, slots := 0, locals := 66 }, shC)
def kX3_shortenWays : nh_K := (RX3, cX3_shortenWays, 4, none, { frames := 1, cells := 0, slots := 0, locals := 21 }, shC)
def kX4_learn : nh_K := (RX4, cX4_learn, 4, none, { frames := 6, cells := 0, slots := 0, locals := 129 }, shC)
def kX4_learnWake : nh_K := (RX4, cX4_learnWake, 5, none, { frames := 4, cells := 0, slots := 0, locals := 82 }, shC)
def kX4_isWoken : nh_K := (RX4, cX4_isWoken, 3, some .boolean, { frames := 0, cells := 0, slots := 0, locals := 0 }, shC)
def kX5_gather : nh_K := (RX5, cX5_gather, 6, none, { frames := 1, cells := 0, slots := 0, locals := 23 }, shC)
def kX5_countNever : nh_K := (RX5, cX5_countNever, 3, none, { frames := 1, cells := 0, slots := 0, locals := 20 }, shC)
def kX5_laterThan : nh_K := (RX5, cX5_laterThan, 5, some .int, { frames := 0, cells := 0, slots := 0, locals := 0 }, shC)
def kX5_run : nh_K := (RX5, cX5_run, 4, some .int, { frames := 2, cells := 0, slots := 0, locals := 45 }, shC)
def kX5_makeReady : nh_K := (RX5, cX5_makeReady, 5, none, { frames := 1, cells := 0, slots := 0, locals := 21 }, shC)
def kX5_queueUp : nh_K := (RX5, cX5_queueUp, 3, none, { frames := 0, cells := 0, slots := 0, locals := 0 }, shC)
def kX5_putAll : nh_K := (RX5, cX5_putAll, 5, some .int, { frames := 0, cells := 0, slots := 0, locals := 0 }, shC)
def kX6_append : nh_K := (RX6, cX6_append, 5, none, { frames := 0, cells := 0, slots := 0, locals := 0 }, shC)
def kX6_begin : nh_K := (RX6, cX6_begin, 1, none, { frames := 0, cells := 0, slots := 0, locals := 0 }, shC)
def kX6_isSound : nh_K := (RX6, cX6_isSound, 1, some .boolean, { frames := 0, cells := 0, slots := 0, locals := 0 }, shC)
def kX6_blame : nh_K := (RX6, cX6_blame, 3, none, { frames := 1, cells := 0, slots := 0, locals := 20 }, shC)
def kX6_blameHere : nh_K := (RX6, cX6_blameHere, 1, none, { frames := 2, cells := 0, slots := 0, locals := 42 }, shC)
def kX6_goesOn : nh_K := (RX6, cX6_goesOn, 1, some .boolean, { frames := 1, cells := 0, slots := 0, locals := 20 }, shC)
def kX6_takesWord : nh_K := (RX6, cX6_takesWord, 4, some .boolean, { frames := 5, cells := 0, slots := 0, locals := 106 }, shC)
def kX6_takesSign : nh_K := (RX6, cX6_takesSign, 2, some .boolean, { frames := 1, cells := 0, slots := 0, locals := 20 }, shC)
def kX6_endClause : nh_K := (RX6, cX6_endClause, 1, none, { frames := 3, cells := 0, slots := 0, locals := 62 }, shC)
def kX6_takeNumber : nh_K := (RX6, cX6_takeNumber, 5, some .int, { frames := 2, cells := 0, slots := 0, locals := 42 }, shC)
def kX6_skipBlanks : nh_K := (RX6, cX6_skipBlanks, 1, none, { frames := 0, cells := 0, slots := 0, locals := 0 }, shC)
def kX6_isLetter : nh_K := (RX6, cX6_isLetter, 1, some .boolean, { frames := 0, cells := 0, slots := 0, locals := 0 }, shC)
def kX6_isFigure : nh_K := (RX6, cX6_isFigure, 1, some .boolean, { frames := 0, cells := 0, slots := 0, locals := 0 }, shC)
def kX7_run : nh_K := (RX7, cX7_run, 6, none, { frames := 2, cells := 0, slots := 0, locals := 52 }, shC)
def kX7_arrival : nh_K := (RX7, cX7_arrival, 4, some .int, { frames := 0, cells := 0, slots := 0, locals := 0 }, shC)
def kX7_rouse : nh_K := (RX7, cX7_rouse, 3, none, { frames := 0, cells := 0, slots := 0, locals := 0 }, shC)
def kX7_goRound : nh_K := (RX7, cX7_goRound, 11, none, { frames := 1, cells := 0, slots := 0, locals := 22 }, shC)
def kX8_feed : nh_K := (RX8, cX8_feed, 4, some .int, { frames := 1, cells := 0, slots := 0, locals := 24 }, shC)
def kX8_parish : nh_K := (RX8, cX8_parish, 2, some .int, { frames := 8, cells := 0, slots := 0, locals := 172 }, shC)
def kX8_plan : nh_K := (RX8, cX8_plan, 2, some .int, { frames := 7, cells := 0, slots := 0, locals := 152 }, shC)
def kX8_fault : nh_K := (RX8, cX8_fault, 1, some .int, { frames := 0, cells := 0, slots := 0, locals := 0 }, shC)
def kX8_told : nh_K := (RX8, cX8_told, 2, some .int, { frames := 1, cells := 0, slots := 0, locals := 22 }, shC)
def kX8_house : nh_K := (RX8, cX8_house, 3, some .int, { frames := 1, cells := 0, slots := 0, locals := 24 }, shC)
def kX8_far : nh_K := (RX8, cX8_far, 3, some .int, { frames := 1, cells := 0, slots := 0, locals := 21 }, shC)
def kX8_part : nh_K := (RX8, cX8_part, 3, some .int, { frames := 1, cells := 0, slots := 0, locals := 21 }, shC)
def kX8_away : nh_K := (RX8, cX8_away, 3, some .int, { frames := 2, cells := 0, slots := 0, locals := 41 }, shC)
def kX8_awake : nh_K := (RX8, cX8_awake, 3, some .int, { frames := 4, cells := 0, slots := 0, locals := 98 }, shC)
def kX8_comes : nh_K := (RX8, cX8_comes, 4, some .int, { frames := 4, cells := 0, slots := 0, locals := 98 }, shC)
def kX8_stands : nh_K := (RX8, cX8_stands, 3, some .int, { frames := 5, cells := 0, slots := 0, locals := 120 }, shC)
def kX8_put : nh_K := (RX8, cX8_put, 4, some .int, { frames := 5, cells := 0, slots := 0, locals := 120 }, shC)
def kX8_waited : nh_K := (RX8, cX8_waited, 3, some .int, { frames := 5, cells := 0, slots := 0, locals := 120 }, shC)
def kX8_odds : nh_K := (RX8, cX8_odds, 12, some .int, { frames := 3, cells := 0, slots := 0, locals := 77 }, shC)
def kX8_night : nh_K := (RX8, cX8_night, 4, some .int, { frames := 2, cells := 0, slots := 0, locals := 42 }, shC)
def kX8_crier : nh_K := (RX8, cX8_crier, 4, some .int, { frames := 4, cells := 0, slots := 0, locals := 104 }, shC)
def kX8_keepAt : nh_K := (RX8, cX8_keepAt, 4, some .int, { frames := 1, cells := 0, slots := 0, locals := 21 }, shC)
def kX8_kept : nh_K := (RX8, cX8_kept, 5, some .int, { frames := 7, cells := 0, slots := 0, locals := 167 }, shC)
def kX8_reach : nh_K := (RX8, cX8_reach, 2, some .int, { frames := 2, cells := 0, slots := 0, locals := 44 }, shC)
def kX8_needed : nh_K := (RX8, cX8_needed, 5, some .int, { frames := 2, cells := 0, slots := 0, locals := 44 }, shC)
def kX8_fit : nh_K := (RX8, cX8_fit, 4, some .int, { frames := 2, cells := 0, slots := 0, locals := 41 }, shC)
def kX8_ladders : nh_K := (RX8, cX8_ladders, 5, some .int, { frames := 3, cells := 0, slots := 0, locals := 65 }, shC)
def kX8_longest : nh_K := (RX8, cX8_longest, 4, some .int, { frames := 3, cells := 0, slots := 0, locals := 65 }, shC)
def kX8_cost : nh_K := (RX8, cX8_cost, 4, some .int, { frames := 1, cells := 0, slots := 0, locals := 21 }, shC)
def kX8_store : nh_K := (RX8, cX8_store, 3, some .int, { frames := 1, cells := 0, slots := 0, locals := 21 }, shC)
def kX8_spares : nh_K := (RX8, cX8_spares, 11, some .int, { frames := 4, cells := 0, slots := 0, locals := 98 }, shC)
def kX8_two : nh_K := (RX8, cX8_two, 11, some .int, { frames := 4, cells := 0, slots := 0, locals := 98 }, shC)
def kX8_log : nh_K := (RX8, cX8_log, 3, some .int, { frames := 1, cells := 0, slots := 0, locals := 22 }, shC)
def kX8_clear : nh_K := (RX8, cX8_clear, 2, some .int, { frames := 1, cells := 0, slots := 0, locals := 23 }, shC)
def kX8_late : nh_K := (RX8, cX8_late, 4, some .int, { frames := 4, cells := 0, slots := 0, locals := 98 }, shC)
def kX8_judge : nh_K := (RX8, cX8_judge, 4, some .int, { frames := 4, cells := 0, slots := 0, locals := 98 }, shC)
def kX8_seed : nh_K := (RX8, cX8_seed, 3, some .int, { frames := 0, cells := 0, slots := 0, locals := 0 }, shC)
def kX8_keep : nh_K := (RX8, cX8_keep, 3, some .int, { frames := 2, cells := 0, slots := 0, locals := 81 }, shC)
def kX8_goBack : nh_K := (RX8, cX8_goBack, 3, some .int, { frames := 2, cells := 0, slots := 0, locals := 81 }, shC)
def kX8_startAnew : nh_K := (RX8, cX8_startAnew, 1, none, { frames := 1, cells := 0, slots := 0, locals := 23 }, shC)
def kX8_noHouse : nh_K := (RX8, cX8_noHouse, 2, some .boolean, { frames := 0, cells := 0, slots := 0, locals := 0 }, shC)
def kX8_noPart : nh_K := (RX8, cX8_noPart, 2, some .boolean, { frames := 0, cells := 0, slots := 0, locals := 0 }, shC)
def kX8_beyond : nh_K := (RX8, cX8_beyond, 2, some .boolean, { frames := 1, cells := 0, slots := 0, locals := 20 }, shC)
def kX8_fullSet : nh_K := (RX8, cX8_fullSet, 1, some .int, { frames := 0, cells := 0, slots := 0, locals := 0 }, shC)
def kX8_has : nh_K := (RX8, cX8_has, 2, some .boolean, { frames := 0, cells := 0, slots := 0, locals := 0 }, shC)
def kX8_counted : nh_K := (RX8, cX8_counted, 1, some .int, { frames := 0, cells := 0, slots := 0, locals := 0 }, shC)
def kX8_swap : nh_K := (RX8, cX8_swap, 4, none, { frames := 0, cells := 0, slots := 0, locals := 0 }, shC)
def kX8_wakeAll : nh_K := (RX8, cX8_wakeAll, 2, none, { frames := 3, cells := 0, slots := 0, locals := 77 }, shC)
def kX8_raiseAll : nh_K := (RX8, cX8_raiseAll, 3, some .int, { frames := 4, cells := 0, slots := 0, locals := 98 }, shC)
def kX8_countWays : nh_K := (RX8, cX8_countWays, 6, none, { frames := 2, cells := 0, slots := 0, locals := 40 }, shC)
def kX8_costOf : nh_K := (RX8, cX8_costOf, 4, some .int, { frames := 1, cells := 0, slots := 0, locals := 21 }, shC)
def kX8_standsWith : nh_K := (RX8, cX8_standsWith, 4, some .int, { frames := 3, cells := 0, slots := 0, locals := 68 }, shC)
def kX8_countLogged : nh_K := (RX8, cX8_countLogged, 3, some .int, { frames := 0, cells := 0, slots := 0, locals := 0 }, shC)
def kX8_lateBy : nh_K := (RX8, cX8_lateBy, 3, some .int, { frames := 1, cells := 0, slots := 0, locals := 21 }, shC)
def kX8_findLatest : nh_K := (RX8, cX8_findLatest, 5, some .int, { frames := 2, cells := 0, slots := 0, locals := 43 }, shC)
def kX8_standsByLog : nh_K := (RX8, cX8_standsByLog, 2, some .int, { frames := 3, cells := 0, slots := 0, locals := 68 }, shC)
def kX9_in : nh_K := (RX9, cX9_in, 6, some .boolean, { frames := 0, cells := 0, slots := 0, locals := 0 }, shR)
def kX9_one : nh_K := (RX9, cX9_one, 1, some .int, { frames := 0, cells := 0, slots := 0, locals := 0 }, shR)
def kX9_has : nh_K := (RX9, cX9_has, 2, some .boolean, { frames := 0, cells := 0, slots := 0, locals := 0 }, shR)
def kX9_ones : nh_K := (RX9, cX9_ones, 3, some .int, { frames := 0, cells := 0, slots := 0, locals := 0 }, shR)
def kX9_feed : nh_K := (RX9, cX9_feed, 5, some .int, { frames := 1, cells := 0, slots := 0, locals := 25 }, shR)
def kX9_here : nh_K := (RX9, cX9_here, 1, some .int, { frames := 0, cells := 0, slots := 0, locals := 0 }, shR)
def kX9_want : nh_K := (RX9, cX9_want, 4, some .boolean, { frames := 0, cells := 0, slots := 0, locals := 0 }, shR)
def kX9_takeWord : nh_K := (RX9, cX9_takeWord, 2, none, { frames := 1, cells := 0, slots := 0, locals := 25 }, shR)
def kX9_isWord : nh_K := (RX9, cX9_isWord, 9, some .boolean, { frames := 0, cells := 0, slots := 0, locals := 0 }, shR)
def kX9_takeNumber : nh_K := (RX9, cX9_takeNumber, 6, some .int, { frames := 1, cells := 0, slots := 0, locals := 25 }, shR)
def kX9_takeEnd : nh_K := (RX9, cX9_takeEnd, 1, none, { frames := 1, cells := 0, slots := 0, locals := 23 }, shR)
def kX9_beginReading : nh_K := (RX9, cX9_beginReading, 1, none, { frames := 0, cells := 0, slots := 0, locals := 0 }, shR)
def kX9_takeHouse : nh_K := (RX9, cX9_takeHouse, 4, none, { frames := 2, cells := 0, slots := 0, locals := 50 }, shR)
def kX9_takeWay : nh_K := (RX9, cX9_takeWay, 4, none, { frames := 2, cells := 0, slots := 0, locals := 50 }, shR)
def kX9_takePart : nh_K := (RX9, cX9_takePart, 5, none, { frames := 2, cells := 0, slots := 0, locals := 50 }, shR)
def kX9_takeClause : nh_K := (RX9, cX9_takeClause, 2, none, { frames := 3, cells := 0, slots := 0, locals := 74 }, shR)
def kX9_parish : nh_K := (RX9, cX9_parish, 2, some .int, { frames := 4, cells := 0, slots := 0, locals := 95 }, shR)
def kX9_plan : nh_K := (RX9, cX9_plan, 5, some .int, { frames := 2, cells := 0, slots := 0, locals := 50 }, shR)
def kX9_fault : nh_K := (RX9, cX9_fault, 1, some .int, { frames := 0, cells := 0, slots := 0, locals := 0 }, shR)
def kX9_findFar : nh_K := (RX9, cX9_findFar, 4, none, { frames := 0, cells := 0, slots := 0, locals := 0 }, shR)
def kX9_farOf : nh_K := (RX9, cX9_farOf, 3, some .int, { frames := 0, cells := 0, slots := 0, locals := 0 }, shR)
def kX9_isHouse : nh_K := (RX9, cX9_isHouse, 2, some .boolean, { frames := 1, cells := 0, slots := 0, locals := 25 }, shR)
def kX9_isPart : nh_K := (RX9, cX9_isPart, 2, some .boolean, { frames := 1, cells := 0, slots := 0, locals := 25 }, shR)
def kX9_isParts : nh_K := (RX9, cX9_isParts, 2, some .boolean, { frames := 1, cells := 0, slots := 0, locals := 25 }, shR)
def kX9_told : nh_K := (RX9, cX9_told, 2, some .int, { frames := 1, cells := 0, slots := 0, locals := 22 }, shR)
def kX9_partsAt : nh_K := (RX9, cX9_partsAt, 4, some .int, { frames := 1, cells := 0, slots := 0, locals := 20 }, shR)
def kX9_house : nh_K := (RX9, cX9_house, 3, some .int, { frames := 2, cells := 0, slots := 0, locals := 46 }, shR)
def kX9_far : nh_K := (RX9, cX9_far, 3, some .int, { frames := 2, cells := 0, slots := 0, locals := 46 }, shR)
def kX9_part : nh_K := (RX9, cX9_part, 3, some .int, { frames := 2, cells := 0, slots := 0, locals := 46 }, shR)
def kX9_isAway : nh_K := (RX9, cX9_isAway, 3, some .boolean, { frames := 1, cells := 0, slots := 0, locals := 21 }, shR)
def kX9_goRound : nh_K := (RX9, cX9_goRound, 10, none, { frames := 2, cells := 0, slots := 0, locals := 43 }, shR)
def kX9_begin : nh_K := (RX9, cX9_begin, 3, none, { frames := 0, cells := 0, slots := 0, locals := 0 }, shR)
def kX9_arriveAwake : nh_K := (RX9, cX9_arriveAwake, 3, none, { frames := 1, cells := 0, slots := 0, locals := 22 }, shR)
def kX9_burn : nh_K := (RX9, cX9_burn, 8, none, { frames := 3, cells := 0, slots := 0, locals := 72 }, shR)
def kX9_comeAll : nh_K := (RX9, cX9_comeAll, 2, none, { frames := 0, cells := 0, slots := 0, locals := 0 }, shR)
def kX9_putIn : nh_K := (RX9, cX9_putIn, 5, some .int, { frames := 1, cells := 0, slots := 0, locals := 21 }, shR)
def kX9_allParts : nh_K := (RX9, cX9_allParts, 1, some .int, { frames := 0, cells := 0, slots := 0, locals := 0 }, shR)
def kX9_standsBy : nh_K := (RX9, cX9_standsBy, 4, some .int, { frames := 4, cells := 0, slots := 0, locals := 99 }, shR)
def kX9_held : nh_K := (RX9, cX9_held, 1, some .int, { frames := 0, cells := 0, slots := 0, locals := 0 }, shR)
def kX9_away : nh_K := (RX9, cX9_away, 3, some .int, { frames := 1, cells := 0, slots := 0, locals := 25 }, shR)
def kX9_awake : nh_K := (RX9, cX9_awake, 3, some .int, { frames := 4, cells := 0, slots := 0, locals := 99 }, shR)
def kX9_comes : nh_K := (RX9, cX9_comes, 4, some .int, { frames := 4, cells := 0, slots := 0, locals := 99 }, shR)
def kX9_stands : nh_K := (RX9, cX9_stands, 3, some .int, { frames := 5, cells := 0, slots := 0, locals := 122 }, shR)
def kX9_put : nh_K := (RX9, cX9_put, 5, some .int, { frames := 5, cells := 0, slots := 0, locals := 122 }, shR)
def kX9_waited : nh_K := (RX9, cX9_waited, 8, some .int, { frames := 5, cells := 0, slots := 0, locals := 122 }, shR)
def kX9_oddsOf : nh_K := (RX9, cX9_oddsOf, 9, some .long, { frames := 1, cells := 0, slots := 0, locals := 21 }, shR)
def kX9_odds : nh_K := (RX9, cX9_odds, 12, some .int, { frames := 5, cells := 0, slots := 0, locals := 122 }, shR)
def kX9_draw : nh_K := (RX9, cX9_draw, 2, some .int, { frames := 0, cells := 0, slots := 0, locals := 0 }, shR)
def kX9_night : nh_K := (RX9, cX9_night, 4, some .int, { frames := 1, cells := 0, slots := 0, locals := 25 }, shR)
def kX9_nextRound : nh_K := (RX9, cX9_nextRound, 6, some .boolean, { frames := 0, cells := 0, slots := 0, locals := 0 }, shR)
def kX9_cried : nh_K := (RX9, cX9_cried, 4, some .int, { frames := 3, cells := 0, slots := 0, locals := 72 }, shR)
def kX9_crier : nh_K := (RX9, cX9_crier, 8, some .int, { frames := 4, cells := 0, slots := 0, locals := 95 }, shR)
def kX9_keepAt : nh_K := (RX9, cX9_keepAt, 4, some .int, { frames := 2, cells := 0, slots := 0, locals := 46 }, shR)
def kX9_holds : nh_K := (RX9, cX9_holds, 6, some .boolean, { frames := 5, cells := 0, slots := 0, locals := 122 }, shR)
def kX9_movesTwo : nh_K := (RX9, cX9_movesTwo, 8, some .boolean, { frames := 6, cells := 0, slots := 0, locals := 147 }, shR)
def kX9_findMoved : nh_K := (RX9, cX9_findMoved, 8, some .int, { frames := 7, cells := 0, slots := 0, locals := 174 }, shR)
def kX9_kept : nh_K := (RX9, cX9_kept, 5, some .int, { frames := 8, cells := 0, slots := 0, locals := 201 }, shR)
def kX9_canBeIn : nh_K := (RX9, cX9_canBeIn, 4, some .int, { frames := 1, cells := 0, slots := 0, locals := 21 }, shR)
def kX9_reachOf : nh_K := (RX9, cX9_reachOf, 5, some .int, { frames := 2, cells := 0, slots := 0, locals := 44 }, shR)
def kX9_reach : nh_K := (RX9, cX9_reach, 2, some .int, { frames := 3, cells := 0, slots := 0, locals := 68 }, shR)
def kX9_needed : nh_K := (RX9, cX9_needed, 4, some .int, { frames := 3, cells := 0, slots := 0, locals := 68 }, shR)
def kX9_fit : nh_K := (RX9, cX9_fit, 4, some .int, { frames := 2, cells := 0, slots := 0, locals := 46 }, shR)
def kX9_laddersOf : nh_K := (RX9, cX9_laddersOf, 7, some .int, { frames := 1, cells := 0, slots := 0, locals := 22 }, shR)
def kX9_ladders : nh_K := (RX9, cX9_ladders, 3, some .int, { frames := 2, cells := 0, slots := 0, locals := 48 }, shR)
def kX9_longest : nh_K := (RX9, cX9_longest, 3, some .int, { frames := 2, cells := 0, slots := 0, locals := 48 }, shR)
def kX9_cost : nh_K := (RX9, cX9_cost, 4, some .int, { frames := 2, cells := 0, slots := 0, locals := 46 }, shR)
def kX9_store : nh_K := (RX9, cX9_store, 3, some .int, { frames := 2, cells := 0, slots := 0, locals := 46 }, shR)
def kX9_spares : nh_K := (RX9, cX9_spares, 12, some .int, { frames := 4, cells := 0, slots := 0, locals := 99 }, shR)
def kX9_endAt : nh_K := (RX9, cX9_endAt, 5, some .int, { frames := 4, cells := 0, slots := 0, locals := 99 }, shR)
def kX9_two : nh_K := (RX9, cX9_two, 11, some .int, { frames := 5, cells := 0, slots := 0, locals := 123 }, shR)
def kX9_log : nh_K := (RX9, cX9_log, 3, some .int, { frames := 2, cells := 0, slots := 0, locals := 46 }, shR)
def kX9_clear : nh_K := (RX9, cX9_clear, 2, some .int, { frames := 1, cells := 0, slots := 0, locals := 22 }, shR)
def kX9_lateOf : nh_K := (RX9, cX9_lateOf, 2, some .int, { frames := 1, cells := 0, slots := 0, locals := 21 }, shR)
def kX9_late : nh_K := (RX9, cX9_late, 4, some .int, { frames := 4, cells := 0, slots := 0, locals := 99 }, shR)
def kX9_judge : nh_K := (RX9, cX9_judge, 6, some .int, { frames := 4, cells := 0, slots := 0, locals := 99 }, shR)
def kX9_seed : nh_K := (RX9, cX9_seed, 3, some .int, { frames := 0, cells := 0, slots := 0, locals := 0 }, shR)
def kX9_copy : nh_K := (RX9, cX9_copy, 4, none, { frames := 0, cells := 0, slots := 0, locals := 0 }, shR)
def kX9_keep : nh_K := (RX9, cX9_keep, 2, some .int, { frames := 1, cells := 0, slots := 0, locals := 25 }, shR)
def kX9_goBack : nh_K := (RX9, cX9_goBack, 2, some .int, { frames := 1, cells := 0, slots := 0, locals := 25 }, shR)
def kJ6_bitCount_0f7a4 : nh_K := (RJ6, cJ6_bitCount_0f7a4, 1, some .int, { frames := 0, cells := 0, slots := 0, locals := 0 }, shC)
def kJ0_length_8abf5 : nh_K := (RJ0, cJ0_length_8abf5, 1, some .int, { frames := 1, cells := 0, slots := 0, locals := 20 }, shC)
def kJ0_charAt_5068e : nh_K := (RJ0, cJ0_charAt_5068e, 2, some .char, { frames := 4, cells := 0, slots := 0, locals := 85 }, shC)
def kJ0_coder_7d493 : nh_K := (RJ0, cJ0_coder_7d493, 1, some .byte, { frames := 0, cells := 0, slots := 0, locals := 0 }, shC)
def kJ0_isLatin1_aae02 : nh_K := (RJ0, cJ0_isLatin1_aae02, 1, some .boolean, { frames := 0, cells := 0, slots := 0, locals := 0 }, shC)
def kJ0_checkIndex_df160 : nh_K := (RJ0, cJ0_checkIndex_df160, 2, none, { frames := 1, cells := 0, slots := 0, locals := 22 }, shC)
def kJ1_charAt_3b067 : nh_K := (RJ1, cJ1_charAt_3b067, 2, some .char, { frames := 2, cells := 0, slots := 0, locals := 43 }, shC)
def kJ7_fill_53178 : nh_K := (RJ7, cJ7_fill_53178, 4, none, { frames := 0, cells := 0, slots := 0, locals := 0 }, shC)
def kJ3_checkIndex_8e157 : nh_K := (RJ3, cJ3_checkIndex_8e157, 3, some .int, { frames := 0, cells := 0, slots := 0, locals := 0 }, shC)
theorem yf_X0_sendOut : nh_Y kX0_sendOut yX0_sendOut 3 := ⟨nh_in (i := 752) (by decide +kernel) rfl, rfl, nh_in (i := 75) (by decide +kernel) rfl, by decide +kernel, ⟨by decide +kernel, by decide +kernel, by decide +kernel⟩, rfl, rfl⟩
theorem yf_X0_search : nh_Y kX0_search yX0_search 5 := ⟨nh_in (i := 757) (by decide +kernel) rfl, rfl, nh_in (i := 75) (by decide +kernel) rfl, by decide +kernel, ⟨by decide +kernel, by decide +kernel, by decide +kernel⟩, rfl, rfl⟩
theorem yf_X0_turnToNext : nh_Y kX0_turnToNext yX0_turnToNext 0 := ⟨nh_in (i := 769) (by decide +kernel) rfl, rfl, nh_in (i := 75) (by decide +kernel) rfl, by decide +kernel, ⟨by decide +kernel, by decide +kernel, by decide +kernel⟩, rfl, rfl⟩
theorem yf_X1_find : nh_Y kX1_find yX1_find 4 := ⟨nh_in (i := 784) (by decide +kernel) rfl, rfl, nh_in (i := 77) (by decide +kernel) rfl, by decide +kernel, ⟨by decide +kernel, by decide +kernel, by decide +kernel⟩, rfl, rfl⟩
theorem yf_X1_moveOne : nh_Y kX1_moveOne yX1_moveOne 3 := ⟨nh_in (i := 797) (by decide +kernel) rfl, rfl, nh_in (i := 77) (by decide +kernel) rfl, by decide +kernel, ⟨by decide +kernel, by decide +kernel, by decide +kernel⟩, rfl, rfl⟩
theorem yf_X1_moveTwo : nh_Y kX1_moveTwo yX1_moveTwo 1 := ⟨nh_in (i := 805) (by decide +kernel) rfl, rfl, nh_in (i := 77) (by decide +kernel) rfl, by decide +kernel, ⟨by decide +kernel, by decide +kernel, by decide +kernel⟩, rfl, rfl⟩
theorem yf_X1_hold : nh_Y kX1_hold yX1_hold 3 := ⟨nh_in (i := 801) (by decide +kernel) rfl, rfl, nh_in (i := 77) (by decide +kernel) rfl, by decide +kernel, ⟨by decide +kernel, by decide +kernel, by decide +kernel⟩, rfl, rfl⟩
theorem yf_X1_isInTime : nh_Y kX1_isInTime yX1_isInTime 1 := ⟨nh_in (i := 790) (by decide +kernel) rfl, rfl, nh_in (i := 77) (by decide +kernel) rfl, by decide +kernel, ⟨by decide +kernel, by decide +kernel, by decide +kernel⟩, rfl, rfl⟩
theorem yf_X2_begin : nh_Y kX2_begin yX2_begin 1 := ⟨nh_in (i := 358) (by decide +kernel) rfl, rfl, nh_in (i := 72) (by decide +kernel) rfl, by decide +kernel, ⟨by decide +kernel, by decide +kernel, by decide +kernel⟩, rfl, rfl⟩
theorem yf_X2_becomes : nh_Y kX2_becomes yX2_becomes 1 := ⟨nh_in (i := 917) (by decide +kernel) rfl, rfl, nh_in (i := 72) (by decide +kernel) rfl, by decide +kernel, ⟨by decide +kernel, by decide +kernel, by decide +kernel⟩, rfl, rfl⟩
theorem yf_X2_partsAt : nh_Y kX2_partsAt yX2_partsAt 2 := ⟨nh_in (i := 617) (by decide +kernel) rfl, rfl, nh_in (i := 72) (by decide +kernel) rfl, by decide +kernel, ⟨by decide +kernel, by decide +kernel, by decide +kernel⟩, rfl, rfl⟩
theorem yf_X2_draw : nh_Y kX2_draw yX2_draw 1 := ⟨nh_in (i := 739) (by decide +kernel) rfl, rfl, nh_in (i := 72) (by decide +kernel) rfl, by decide +kernel, ⟨by decide +kernel, by decide +kernel, by decide +kernel⟩, rfl, rfl⟩
theorem yf_X3_learn : nh_Y kX3_learn yX3_learn 1 := ⟨nh_in (i := 436) (by decide +kernel) rfl, rfl, nh_in (i := 78) (by decide +kernel) rfl, by decide +kernel, ⟨by decide +kernel, by decide +kernel, by decide +kernel⟩, rfl, rfl⟩
theorem yf_X3_allParts : nh_Y kX3_allParts yX3_allParts 0 := ⟨nh_in (i := 686) (by decide +kernel) rfl, rfl, nh_in (i := 78) (by decide +kernel) rfl, by decide +kernel, ⟨by decide +kernel, by decide +kernel, by decide +kernel⟩, rfl, rfl⟩
theorem yf_X3_canBeIn : nh_Y kX3_canBeIn yX3_canBeIn 1 := ⟨nh_in (i := 813) (by decide +kernel) rfl, rfl, nh_in (i := 78) (by decide +kernel) rfl, by decide +kernel, ⟨by decide +kernel, by decide +kernel, by decide +kernel⟩, rfl, rfl⟩
theorem yf_X3_gainOf : nh_Y kX3_gainOf yX3_gainOf 1 := ⟨nh_in (i := 817) (by decide +kernel) rfl, rfl, nh_in (i := 78) (by decide +kernel) rfl, by decide +kernel, ⟨by decide +kernel, by decide +kernel, by decide +kernel⟩, rfl, rfl⟩
theorem yf_X3_shareOf : nh_Y kX3_shareOf yX3_shareOf 3 := ⟨nh_in (i := 724) (by decide +kernel) rfl, rfl, nh_in (i := 78) (by decide +kernel) rfl, by decide +kernel, ⟨by decide +kernel, by decide +kernel, by decide +kernel⟩, rfl, rfl⟩
theorem yf_X3_forget : nh_Y kX3_forget yX3_forget 0 := ⟨nh_in (i := 440) (by decide +kernel) rfl, rfl, nh_in (i := 78) (by decide +kernel) rfl, by decide +kernel, ⟨by decide +kernel, by decide +kernel, by decide +kernel⟩, rfl, rfl⟩
theorem yf_X3_learnHouse : nh_Y kX3_learnHouse yX3_learnHouse 1 := ⟨nh_in (i := 513) (by decide +kernel) rfl, rfl, nh_in (i := 78) (by decide +kernel) rfl, by decide +kernel, ⟨by decide +kernel, by decide +kernel, by decide +kernel⟩, rfl, rfl⟩
theorem yf_X3_learnWay : nh_Y kX3_learnWay yX3_learnWay 1 := ⟨nh_in (i := 542) (by decide +kernel) rfl, rfl, nh_in (i := 78) (by decide +kernel) rfl, by decide +kernel, ⟨by decide +kernel, by decide +kernel, by decide +kernel⟩, rfl, rfl⟩
theorem yf_X3_learnPart : nh_Y kX3_learnPart yX3_learnPart 1 := ⟨nh_in (i := 548) (by decide +kernel) rfl, rfl, nh_in (i := 78) (by decide +kernel) rfl, by decide +kernel, ⟨by decide +kernel, by decide +kernel, by decide +kernel⟩, rfl, rfl⟩
theorem yf_X3_learnBehind : nh_Y kX3_learnBehind yX3_learnBehind 1 := ⟨nh_in (i := 553) (by decide +kernel) rfl, rfl, nh_in (i := 78) (by decide +kernel) rfl, by decide +kernel, ⟨by decide +kernel, by decide +kernel, by decide +kernel⟩, rfl, rfl⟩
theorem yf_X3_shortenWays : nh_Y kX3_shortenWays yX3_shortenWays 0 := ⟨nh_in (i := 562) (by decide +kernel) rfl, rfl, nh_in (i := 78) (by decide +kernel) rfl, by decide +kernel, ⟨by decide +kernel, by decide +kernel, by decide +kernel⟩, rfl, rfl⟩
theorem yf_X4_learn : nh_Y kX4_learn yX4_learn 2 := ⟨nh_in (i := 576) (by decide +kernel) rfl, rfl, nh_in (i := 76) (by decide +kernel) rfl, by decide +kernel, ⟨by decide +kernel, by decide +kernel, by decide +kernel⟩, rfl, rfl⟩
theorem yf_X4_learnWake : nh_Y kX4_learnWake yX4_learnWake 2 := ⟨nh_in (i := 583) (by decide +kernel) rfl, rfl, nh_in (i := 76) (by decide +kernel) rfl, by decide +kernel, ⟨by decide +kernel, by decide +kernel, by decide +kernel⟩, rfl, rfl⟩
theorem yf_X4_isWoken : nh_Y kX4_isWoken yX4_isWoken 1 := ⟨nh_in (i := 590) (by decide +kernel) rfl, rfl, nh_in (i := 76) (by decide +kernel) rfl, by decide +kernel, ⟨by decide +kernel, by decide +kernel, by decide +kernel⟩, rfl, rfl⟩
theorem yf_X5_gather : nh_Y kX5_gather yX5_gather 4 := ⟨nh_in (i := 681) (by decide +kernel) rfl, rfl, nh_in (i := 74) (by decide +kernel) rfl, by decide +kernel, ⟨by decide +kernel, by decide +kernel, by decide +kernel⟩, rfl, rfl⟩
theorem yf_X5_countNever : nh_Y kX5_countNever yX5_countNever 1 := ⟨nh_in (i := 875) (by decide +kernel) rfl, rfl, nh_in (i := 74) (by decide +kernel) rfl, by decide +kernel, ⟨by decide +kernel, by decide +kernel, by decide +kernel⟩, rfl, rfl⟩
theorem yf_X5_laterThan : nh_Y kX5_laterThan yX5_laterThan 2 := ⟨nh_in (i := 859) (by decide +kernel) rfl, rfl, nh_in (i := 74) (by decide +kernel) rfl, by decide +kernel, ⟨by decide +kernel, by decide +kernel, by decide +kernel⟩, rfl, rfl⟩
theorem yf_X5_run : nh_Y kX5_run yX5_run 2 := ⟨nh_in (i := 691) (by decide +kernel) rfl, rfl, nh_in (i := 74) (by decide +kernel) rfl, by decide +kernel, ⟨by decide +kernel, by decide +kernel, by decide +kernel⟩, rfl, rfl⟩
theorem yf_X5_makeReady : nh_Y kX5_makeReady yX5_makeReady 2 := ⟨nh_in (i := 696) (by decide +kernel) rfl, rfl, nh_in (i := 74) (by decide +kernel) rfl, by decide +kernel, ⟨by decide +kernel, by decide +kernel, by decide +kernel⟩, rfl, rfl⟩
theorem yf_X5_queueUp : nh_Y kX5_queueUp yX5_queueUp 1 := ⟨nh_in (i := 703) (by decide +kernel) rfl, rfl, nh_in (i := 74) (by decide +kernel) rfl, by decide +kernel, ⟨by decide +kernel, by decide +kernel, by decide +kernel⟩, rfl, rfl⟩
theorem yf_X5_putAll : nh_Y kX5_putAll yX5_putAll 1 := ⟨nh_in (i := 707) (by decide +kernel) rfl, rfl, nh_in (i := 74) (by decide +kernel) rfl, by decide +kernel, ⟨by decide +kernel, by decide +kernel, by decide +kernel⟩, rfl, rfl⟩
theorem yf_X6_append : nh_Y kX6_append yX6_append 2 := ⟨nh_in (i := 423) (by decide +kernel) rfl, rfl, nh_in (i := 71) (by decide +kernel) rfl, by decide +kernel, ⟨by decide +kernel, by decide +kernel, by decide +kernel⟩, rfl, rfl⟩
theorem yf_X6_begin : nh_Y kX6_begin yX6_begin 0 := ⟨nh_in (i := 432) (by decide +kernel) rfl, rfl, nh_in (i := 71) (by decide +kernel) rfl, by decide +kernel, ⟨by decide +kernel, by decide +kernel, by decide +kernel⟩, rfl, rfl⟩
theorem yf_X6_isSound : nh_Y kX6_isSound yX6_isSound 0 := ⟨nh_in (i := 453) (by decide +kernel) rfl, rfl, nh_in (i := 71) (by decide +kernel) rfl, by decide +kernel, ⟨by decide +kernel, by decide +kernel, by decide +kernel⟩, rfl, rfl⟩
theorem yf_X6_blame : nh_Y kX6_blame yX6_blame 2 := ⟨nh_in (i := 517) (by decide +kernel) rfl, rfl, nh_in (i := 71) (by decide +kernel) rfl, by decide +kernel, ⟨by decide +kernel, by decide +kernel, by decide +kernel⟩, rfl, rfl⟩
theorem yf_X6_blameHere : nh_Y kX6_blameHere yX6_blameHere 0 := ⟨nh_in (i := 537) (by decide +kernel) rfl, rfl, nh_in (i := 71) (by decide +kernel) rfl, by decide +kernel, ⟨by decide +kernel, by decide +kernel, by decide +kernel⟩, rfl, rfl⟩
theorem yf_X6_goesOn : nh_Y kX6_goesOn yX6_goesOn 0 := ⟨nh_in (i := 445) (by decide +kernel) rfl, rfl, nh_in (i := 71) (by decide +kernel) rfl, by decide +kernel, ⟨by decide +kernel, by decide +kernel, by decide +kernel⟩, rfl, rfl⟩
theorem yf_X6_takesWord : nh_Y kX6_takesWord yX6_takesWord 1 := ⟨nh_in (i := 458) (by decide +kernel) rfl, rfl, nh_in (i := 71) (by decide +kernel) rfl, by decide +kernel, ⟨by decide +kernel, by decide +kernel, by decide +kernel⟩, rfl, rfl⟩
theorem yf_X6_takesSign : nh_Y kX6_takesSign yX6_takesSign 1 := ⟨nh_in (i := 533) (by decide +kernel) rfl, rfl, nh_in (i := 71) (by decide +kernel) rfl, by decide +kernel, ⟨by decide +kernel, by decide +kernel, by decide +kernel⟩, rfl, rfl⟩
theorem yf_X6_endClause : nh_Y kX6_endClause yX6_endClause 0 := ⟨nh_in (i := 529) (by decide +kernel) rfl, rfl, nh_in (i := 71) (by decide +kernel) rfl, by decide +kernel, ⟨by decide +kernel, by decide +kernel, by decide +kernel⟩, rfl, rfl⟩
theorem yf_X6_takeNumber : nh_Y kX6_takeNumber yX6_takeNumber 2 := ⟨nh_in (i := 521) (by decide +kernel) rfl, rfl, nh_in (i := 71) (by decide +kernel) rfl, by decide +kernel, ⟨by decide +kernel, by decide +kernel, by decide +kernel⟩, rfl, rfl⟩
theorem yf_X6_skipBlanks : nh_Y kX6_skipBlanks yX6_skipBlanks 0 := ⟨nh_in (i := 449) (by decide +kernel) rfl, rfl, nh_in (i := 71) (by decide +kernel) rfl, by decide +kernel, ⟨by decide +kernel, by decide +kernel, by decide +kernel⟩, rfl, rfl⟩
theorem yf_X6_isLetter : nh_Y kX6_isLetter yX6_isLetter 1 := ⟨nh_in (i := 461) (by decide +kernel) rfl, rfl, nh_in (i := 71) (by decide +kernel) rfl, by decide +kernel, ⟨by decide +kernel, by decide +kernel, by decide +kernel⟩, rfl, rfl⟩
theorem yf_X6_isFigure : nh_Y kX6_isFigure yX6_isFigure 1 := ⟨nh_in (i := 524) (by decide +kernel) rfl, rfl, nh_in (i := 71) (by decide +kernel) rfl, by decide +kernel, ⟨by decide +kernel, by decide +kernel, by decide +kernel⟩, rfl, rfl⟩
theorem yf_X7_run : nh_Y kX7_run yX7_run 4 := ⟨nh_in (i := 651) (by decide +kernel) rfl, rfl, nh_in (i := 73) (by decide +kernel) rfl, by decide +kernel, ⟨by decide +kernel, by decide +kernel, by decide +kernel⟩, rfl, rfl⟩
theorem yf_X7_arrival : nh_Y kX7_arrival yX7_arrival 3 := ⟨nh_in (i := 669) (by decide +kernel) rfl, rfl, nh_in (i := 73) (by decide +kernel) rfl, by decide +kernel, ⟨by decide +kernel, by decide +kernel, by decide +kernel⟩, rfl, rfl⟩
theorem yf_X7_rouse : nh_Y kX7_rouse yX7_rouse 2 := ⟨nh_in (i := 656) (by decide +kernel) rfl, rfl, nh_in (i := 73) (by decide +kernel) rfl, by decide +kernel, ⟨by decide +kernel, by decide +kernel, by decide +kernel⟩, rfl, rfl⟩
theorem yf_X7_goRound : nh_Y kX7_goRound yX7_goRound 5 := ⟨nh_in (i := 660) (by decide +kernel) rfl, rfl, nh_in (i := 73) (by decide +kernel) rfl, by decide +kernel, ⟨by decide +kernel, by decide +kernel, by decide +kernel⟩, rfl, rfl⟩
theorem yf_X8_feed : nh_Y kX8_feed yX8_feed 2 := ⟨nh_in (i := 417) (by decide +kernel) rfl, rfl, nh_in (i := 70) (by decide +kernel) rfl, by decide +kernel, ⟨by decide +kernel, by decide +kernel, by decide +kernel⟩, rfl, rfl⟩
theorem yf_X8_parish : nh_Y kX8_parish yX8_parish 0 := ⟨nh_in (i := 428) (by decide +kernel) rfl, rfl, nh_in (i := 70) (by decide +kernel) rfl, by decide +kernel, ⟨by decide +kernel, by decide +kernel, by decide +kernel⟩, rfl, rfl⟩
theorem yf_X8_plan : nh_Y kX8_plan yX8_plan 0 := ⟨nh_in (i := 571) (by decide +kernel) rfl, rfl, nh_in (i := 70) (by decide +kernel) rfl, by decide +kernel, ⟨by decide +kernel, by decide +kernel, by decide +kernel⟩, rfl, rfl⟩
theorem yf_X8_fault : nh_Y kX8_fault yX8_fault 0 := ⟨nh_in (i := 596) (by decide +kernel) rfl, rfl, nh_in (i := 70) (by decide +kernel) rfl, by decide +kernel, ⟨by decide +kernel, by decide +kernel, by decide +kernel⟩, rfl, rfl⟩
theorem yf_X8_told : nh_Y kX8_told yX8_told 1 := ⟨nh_in (i := 600) (by decide +kernel) rfl, rfl, nh_in (i := 70) (by decide +kernel) rfl, by decide +kernel, ⟨by decide +kernel, by decide +kernel, by decide +kernel⟩, rfl, rfl⟩
theorem yf_X8_house : nh_Y kX8_house yX8_house 2 := ⟨nh_in (i := 608) (by decide +kernel) rfl, rfl, nh_in (i := 70) (by decide +kernel) rfl, by decide +kernel, ⟨by decide +kernel, by decide +kernel, by decide +kernel⟩, rfl, rfl⟩
theorem yf_X8_far : nh_Y kX8_far yX8_far 2 := ⟨nh_in (i := 621) (by decide +kernel) rfl, rfl, nh_in (i := 70) (by decide +kernel) rfl, by decide +kernel, ⟨by decide +kernel, by decide +kernel, by decide +kernel⟩, rfl, rfl⟩
theorem yf_X8_part : nh_Y kX8_part yX8_part 2 := ⟨nh_in (i := 625) (by decide +kernel) rfl, rfl, nh_in (i := 70) (by decide +kernel) rfl, by decide +kernel, ⟨by decide +kernel, by decide +kernel, by decide +kernel⟩, rfl, rfl⟩
theorem yf_X8_away : nh_Y kX8_away yX8_away 1 := ⟨nh_in (i := 633) (by decide +kernel) rfl, rfl, nh_in (i := 70) (by decide +kernel) rfl, by decide +kernel, ⟨by decide +kernel, by decide +kernel, by decide +kernel⟩, rfl, rfl⟩
theorem yf_X8_awake : nh_Y kX8_awake yX8_awake 2 := ⟨nh_in (i := 643) (by decide +kernel) rfl, rfl, nh_in (i := 70) (by decide +kernel) rfl, by decide +kernel, ⟨by decide +kernel, by decide +kernel, by decide +kernel⟩, rfl, rfl⟩
theorem yf_X8_comes : nh_Y kX8_comes yX8_comes 3 := ⟨nh_in (i := 665) (by decide +kernel) rfl, rfl, nh_in (i := 70) (by decide +kernel) rfl, by decide +kernel, ⟨by decide +kernel, by decide +kernel, by decide +kernel⟩, rfl, rfl⟩
theorem yf_X8_stands : nh_Y kX8_stands yX8_stands 2 := ⟨nh_in (i := 673) (by decide +kernel) rfl, rfl, nh_in (i := 70) (by decide +kernel) rfl, by decide +kernel, ⟨by decide +kernel, by decide +kernel, by decide +kernel⟩, rfl, rfl⟩
theorem yf_X8_put : nh_Y kX8_put yX8_put 3 := ⟨nh_in (i := 711) (by decide +kernel) rfl, rfl, nh_in (i := 70) (by decide +kernel) rfl, by decide +kernel, ⟨by decide +kernel, by decide +kernel, by decide +kernel⟩, rfl, rfl⟩
theorem yf_X8_waited : nh_Y kX8_waited yX8_waited 2 := ⟨nh_in (i := 715) (by decide +kernel) rfl, rfl, nh_in (i := 70) (by decide +kernel) rfl, by decide +kernel, ⟨by decide +kernel, by decide +kernel, by decide +kernel⟩, rfl, rfl⟩
theorem yf_X8_odds : nh_Y kX8_odds yX8_odds 4 := ⟨nh_in (i := 719) (by decide +kernel) rfl, rfl, nh_in (i := 70) (by decide +kernel) rfl, by decide +kernel, ⟨by decide +kernel, by decide +kernel, by decide +kernel⟩, rfl, rfl⟩
theorem yf_X8_night : nh_Y kX8_night yX8_night 1 := ⟨nh_in (i := 735) (by decide +kernel) rfl, rfl, nh_in (i := 70) (by decide +kernel) rfl, by decide +kernel, ⟨by decide +kernel, by decide +kernel, by decide +kernel⟩, rfl, rfl⟩
theorem yf_X8_crier : nh_Y kX8_crier yX8_crier 3 := ⟨nh_in (i := 748) (by decide +kernel) rfl, rfl, nh_in (i := 70) (by decide +kernel) rfl, by decide +kernel, ⟨by decide +kernel, by decide +kernel, by decide +kernel⟩, rfl, rfl⟩
theorem yf_X8_keepAt : nh_Y kX8_keepAt yX8_keepAt 2 := ⟨nh_in (i := 776) (by decide +kernel) rfl, rfl, nh_in (i := 70) (by decide +kernel) rfl, by decide +kernel, ⟨by decide +kernel, by decide +kernel, by decide +kernel⟩, rfl, rfl⟩
theorem yf_X8_kept : nh_Y kX8_kept yX8_kept 3 := ⟨nh_in (i := 780) (by decide +kernel) rfl, rfl, nh_in (i := 70) (by decide +kernel) rfl, by decide +kernel, ⟨by decide +kernel, by decide +kernel, by decide +kernel⟩, rfl, rfl⟩
theorem yf_X8_reach : nh_Y kX8_reach yX8_reach 1 := ⟨nh_in (i := 809) (by decide +kernel) rfl, rfl, nh_in (i := 70) (by decide +kernel) rfl, by decide +kernel, ⟨by decide +kernel, by decide +kernel, by decide +kernel⟩, rfl, rfl⟩
theorem yf_X8_needed : nh_Y kX8_needed yX8_needed 1 := ⟨nh_in (i := 821) (by decide +kernel) rfl, rfl, nh_in (i := 70) (by decide +kernel) rfl, by decide +kernel, ⟨by decide +kernel, by decide +kernel, by decide +kernel⟩, rfl, rfl⟩
theorem yf_X8_fit : nh_Y kX8_fit yX8_fit 2 := ⟨nh_in (i := 831) (by decide +kernel) rfl, rfl, nh_in (i := 70) (by decide +kernel) rfl, by decide +kernel, ⟨by decide +kernel, by decide +kernel, by decide +kernel⟩, rfl, rfl⟩
theorem yf_X8_ladders : nh_Y kX8_ladders yX8_ladders 2 := ⟨nh_in (i := 835) (by decide +kernel) rfl, rfl, nh_in (i := 70) (by decide +kernel) rfl, by decide +kernel, ⟨by decide +kernel, by decide +kernel, by decide +kernel⟩, rfl, rfl⟩
theorem yf_X8_longest : nh_Y kX8_longest yX8_longest 1 := ⟨nh_in (i := 843) (by decide +kernel) rfl, rfl, nh_in (i := 70) (by decide +kernel) rfl, by decide +kernel, ⟨by decide +kernel, by decide +kernel, by decide +kernel⟩, rfl, rfl⟩
theorem yf_X8_cost : nh_Y kX8_cost yX8_cost 2 := ⟨nh_in (i := 847) (by decide +kernel) rfl, rfl, nh_in (i := 70) (by decide +kernel) rfl, by decide +kernel, ⟨by decide +kernel, by decide +kernel, by decide +kernel⟩, rfl, rfl⟩
theorem yf_X8_store : nh_Y kX8_store yX8_store 1 := ⟨nh_in (i := 851) (by decide +kernel) rfl, rfl, nh_in (i := 70) (by decide +kernel) rfl, by decide +kernel, ⟨by decide +kernel, by decide +kernel, by decide +kernel⟩, rfl, rfl⟩
theorem yf_X8_spares : nh_Y kX8_spares yX8_spares 4 := ⟨nh_in (i := 855) (by decide +kernel) rfl, rfl, nh_in (i := 70) (by decide +kernel) rfl, by decide +kernel, ⟨by decide +kernel, by decide +kernel, by decide +kernel⟩, rfl, rfl⟩
theorem yf_X8_two : nh_Y kX8_two yX8_two 4 := ⟨nh_in (i := 871) (by decide +kernel) rfl, rfl, nh_in (i := 70) (by decide +kernel) rfl, by decide +kernel, ⟨by decide +kernel, by decide +kernel, by decide +kernel⟩, rfl, rfl⟩
theorem yf_X8_log : nh_Y kX8_log yX8_log 2 := ⟨nh_in (i := 881) (by decide +kernel) rfl, rfl, nh_in (i := 70) (by decide +kernel) rfl, by decide +kernel, ⟨by decide +kernel, by decide +kernel, by decide +kernel⟩, rfl, rfl⟩
theorem yf_X8_clear : nh_Y kX8_clear yX8_clear 0 := ⟨nh_in (i := 885) (by decide +kernel) rfl, rfl, nh_in (i := 70) (by decide +kernel) rfl, by decide +kernel, ⟨by decide +kernel, by decide +kernel, by decide +kernel⟩, rfl, rfl⟩
theorem yf_X8_late : nh_Y kX8_late yX8_late 3 := ⟨nh_in (i := 889) (by decide +kernel) rfl, rfl, nh_in (i := 70) (by decide +kernel) rfl, by decide +kernel, ⟨by decide +kernel, by decide +kernel, by decide +kernel⟩, rfl, rfl⟩
theorem yf_X8_judge : nh_Y kX8_judge yX8_judge 3 := ⟨nh_in (i := 897) (by decide +kernel) rfl, rfl, nh_in (i := 70) (by decide +kernel) rfl, by decide +kernel, ⟨by decide +kernel, by decide +kernel, by decide +kernel⟩, rfl, rfl⟩
theorem yf_X8_seed : nh_Y kX8_seed yX8_seed 1 := ⟨nh_in (i := 909) (by decide +kernel) rfl, rfl, nh_in (i := 70) (by decide +kernel) rfl, by decide +kernel, ⟨by decide +kernel, by decide +kernel, by decide +kernel⟩, rfl, rfl⟩
theorem yf_X8_keep : nh_Y kX8_keep yX8_keep 1 := ⟨nh_in (i := 913) (by decide +kernel) rfl, rfl, nh_in (i := 70) (by decide +kernel) rfl, by decide +kernel, ⟨by decide +kernel, by decide +kernel, by decide +kernel⟩, rfl, rfl⟩
theorem yf_X8_goBack : nh_Y kX8_goBack yX8_goBack 1 := ⟨nh_in (i := 922) (by decide +kernel) rfl, rfl, nh_in (i := 70) (by decide +kernel) rfl, by decide +kernel, ⟨by decide +kernel, by decide +kernel, by decide +kernel⟩, rfl, rfl⟩
theorem yf_X8_startAnew : nh_Y kX8_startAnew yX8_startAnew 0 := ⟨nh_in (i := 354) (by decide +kernel) rfl, rfl, nh_in (i := 70) (by decide +kernel) rfl, by decide +kernel, ⟨by decide +kernel, by decide +kernel, by decide +kernel⟩, rfl, rfl⟩
theorem yf_X8_noHouse : nh_Y kX8_noHouse yX8_noHouse 1 := ⟨nh_in (i := 612) (by decide +kernel) rfl, rfl, nh_in (i := 70) (by decide +kernel) rfl, by decide +kernel, ⟨by decide +kernel, by decide +kernel, by decide +kernel⟩, rfl, rfl⟩
theorem yf_X8_noPart : nh_Y kX8_noPart yX8_noPart 1 := ⟨nh_in (i := 629) (by decide +kernel) rfl, rfl, nh_in (i := 70) (by decide +kernel) rfl, by decide +kernel, ⟨by decide +kernel, by decide +kernel, by decide +kernel⟩, rfl, rfl⟩
theorem yf_X8_beyond : nh_Y kX8_beyond yX8_beyond 2 := ⟨nh_in (i := 636) (by decide +kernel) rfl, rfl, nh_in (i := 70) (by decide +kernel) rfl, by decide +kernel, ⟨by decide +kernel, by decide +kernel, by decide +kernel⟩, rfl, rfl⟩
theorem yf_X8_fullSet : nh_Y kX8_fullSet yX8_fullSet 1 := ⟨nh_in (i := 639) (by decide +kernel) rfl, rfl, nh_in (i := 70) (by decide +kernel) rfl, by decide +kernel, ⟨by decide +kernel, by decide +kernel, by decide +kernel⟩, rfl, rfl⟩
theorem yf_X8_has : nh_Y kX8_has yX8_has 2 := ⟨nh_in (i := 556) (by decide +kernel) rfl, rfl, nh_in (i := 70) (by decide +kernel) rfl, by decide +kernel, ⟨by decide +kernel, by decide +kernel, by decide +kernel⟩, rfl, rfl⟩
theorem yf_X8_counted : nh_Y kX8_counted yX8_counted 1 := ⟨nh_in (i := 729) (by decide +kernel) rfl, rfl, nh_in (i := 70) (by decide +kernel) rfl, by decide +kernel, ⟨by decide +kernel, by decide +kernel, by decide +kernel⟩, rfl, rfl⟩
theorem yf_X8_swap : nh_Y kX8_swap yX8_swap 3 := ⟨nh_in (i := 772) (by decide +kernel) rfl, rfl, nh_in (i := 70) (by decide +kernel) rfl, by decide +kernel, ⟨by decide +kernel, by decide +kernel, by decide +kernel⟩, rfl, rfl⟩
theorem yf_X8_wakeAll : nh_Y kX8_wakeAll yX8_wakeAll 1 := ⟨nh_in (i := 647) (by decide +kernel) rfl, rfl, nh_in (i := 70) (by decide +kernel) rfl, by decide +kernel, ⟨by decide +kernel, by decide +kernel, by decide +kernel⟩, rfl, rfl⟩
theorem yf_X8_raiseAll : nh_Y kX8_raiseAll yX8_raiseAll 2 := ⟨nh_in (i := 677) (by decide +kernel) rfl, rfl, nh_in (i := 70) (by decide +kernel) rfl, by decide +kernel, ⟨by decide +kernel, by decide +kernel, by decide +kernel⟩, rfl, rfl⟩
theorem yf_X8_countWays : nh_Y kX8_countWays yX8_countWays 1 := ⟨nh_in (i := 839) (by decide +kernel) rfl, rfl, nh_in (i := 70) (by decide +kernel) rfl, by decide +kernel, ⟨by decide +kernel, by decide +kernel, by decide +kernel⟩, rfl, rfl⟩
theorem yf_X8_costOf : nh_Y kX8_costOf yX8_costOf 1 := ⟨nh_in (i := 867) (by decide +kernel) rfl, rfl, nh_in (i := 70) (by decide +kernel) rfl, by decide +kernel, ⟨by decide +kernel, by decide +kernel, by decide +kernel⟩, rfl, rfl⟩
theorem yf_X8_standsWith : nh_Y kX8_standsWith yX8_standsWith 2 := ⟨nh_in (i := 863) (by decide +kernel) rfl, rfl, nh_in (i := 70) (by decide +kernel) rfl, by decide +kernel, ⟨by decide +kernel, by decide +kernel, by decide +kernel⟩, rfl, rfl⟩
theorem yf_X8_countLogged : nh_Y kX8_countLogged yX8_countLogged 0 := ⟨nh_in (i := 604) (by decide +kernel) rfl, rfl, nh_in (i := 70) (by decide +kernel) rfl, by decide +kernel, ⟨by decide +kernel, by decide +kernel, by decide +kernel⟩, rfl, rfl⟩
theorem yf_X8_lateBy : nh_Y kX8_lateBy yX8_lateBy 2 := ⟨nh_in (i := 893) (by decide +kernel) rfl, rfl, nh_in (i := 70) (by decide +kernel) rfl, by decide +kernel, ⟨by decide +kernel, by decide +kernel, by decide +kernel⟩, rfl, rfl⟩
theorem yf_X8_findLatest : nh_Y kX8_findLatest yX8_findLatest 0 := ⟨nh_in (i := 901) (by decide +kernel) rfl, rfl, nh_in (i := 70) (by decide +kernel) rfl, by decide +kernel, ⟨by decide +kernel, by decide +kernel, by decide +kernel⟩, rfl, rfl⟩
theorem yf_X8_standsByLog : nh_Y kX8_standsByLog yX8_standsByLog 0 := ⟨nh_in (i := 905) (by decide +kernel) rfl, rfl, nh_in (i := 70) (by decide +kernel) rfl, by decide +kernel, ⟨by decide +kernel, by decide +kernel, by decide +kernel⟩, rfl, rfl⟩
theorem yf_X9_in : nh_Y kX9_in yX9_in 3 := ⟨nh_in (i := 1055) (by decide +kernel) rfl, rfl, nh_in (i := 80) (by decide +kernel) rfl, by decide +kernel, ⟨by decide +kernel, by decide +kernel, by decide +kernel⟩, rfl, rfl⟩
theorem yf_X9_one : nh_Y kX9_one yX9_one 1 := ⟨nh_in (i := 1113) (by decide +kernel) rfl, rfl, nh_in (i := 80) (by decide +kernel) rfl, by decide +kernel, ⟨by decide +kernel, by decide +kernel, by decide +kernel⟩, rfl, rfl⟩
theorem yf_X9_has : nh_Y kX9_has yX9_has 2 := ⟨nh_in (i := 1110) (by decide +kernel) rfl, rfl, nh_in (i := 80) (by decide +kernel) rfl, by decide +kernel, ⟨by decide +kernel, by decide +kernel, by decide +kernel⟩, rfl, rfl⟩
theorem yf_X9_ones : nh_Y kX9_ones yX9_ones 1 := ⟨nh_in (i := 1137) (by decide +kernel) rfl, rfl, nh_in (i := 80) (by decide +kernel) rfl, by decide +kernel, ⟨by decide +kernel, by decide +kernel, by decide +kernel⟩, rfl, rfl⟩
theorem yf_X9_feed : nh_Y kX9_feed yX9_feed 2 := ⟨nh_in (i := 1051) (by decide +kernel) rfl, rfl, nh_in (i := 80) (by decide +kernel) rfl, by decide +kernel, ⟨by decide +kernel, by decide +kernel, by decide +kernel⟩, rfl, rfl⟩
theorem yf_X9_here : nh_Y kX9_here yX9_here 0 := ⟨nh_in (i := 1070) (by decide +kernel) rfl, rfl, nh_in (i := 80) (by decide +kernel) rfl, by decide +kernel, ⟨by decide +kernel, by decide +kernel, by decide +kernel⟩, rfl, rfl⟩
theorem yf_X9_want : nh_Y kX9_want yX9_want 3 := ⟨nh_in (i := 1092) (by decide +kernel) rfl, rfl, nh_in (i := 80) (by decide +kernel) rfl, by decide +kernel, ⟨by decide +kernel, by decide +kernel, by decide +kernel⟩, rfl, rfl⟩
theorem yf_X9_takeWord : nh_Y kX9_takeWord yX9_takeWord 0 := ⟨nh_in (i := 1078) (by decide +kernel) rfl, rfl, nh_in (i := 80) (by decide +kernel) rfl, by decide +kernel, ⟨by decide +kernel, by decide +kernel, by decide +kernel⟩, rfl, rfl⟩
theorem yf_X9_isWord : nh_Y kX9_isWord yX9_isWord 6 := ⟨nh_in (i := 1084) (by decide +kernel) rfl, rfl, nh_in (i := 80) (by decide +kernel) rfl, by decide +kernel, ⟨by decide +kernel, by decide +kernel, by decide +kernel⟩, rfl, rfl⟩
theorem yf_X9_takeNumber : nh_Y kX9_takeNumber yX9_takeNumber 2 := ⟨nh_in (i := 1096) (by decide +kernel) rfl, rfl, nh_in (i := 80) (by decide +kernel) rfl, by decide +kernel, ⟨by decide +kernel, by decide +kernel, by decide +kernel⟩, rfl, rfl⟩
theorem yf_X9_takeEnd : nh_Y kX9_takeEnd yX9_takeEnd 0 := ⟨nh_in (i := 1117) (by decide +kernel) rfl, rfl, nh_in (i := 80) (by decide +kernel) rfl, by decide +kernel, ⟨by decide +kernel, by decide +kernel, by decide +kernel⟩, rfl, rfl⟩
theorem yf_X9_beginReading : nh_Y kX9_beginReading yX9_beginReading 0 := ⟨nh_in (i := 1066) (by decide +kernel) rfl, rfl, nh_in (i := 80) (by decide +kernel) rfl, by decide +kernel, ⟨by decide +kernel, by decide +kernel, by decide +kernel⟩, rfl, rfl⟩
theorem yf_X9_takeHouse : nh_Y kX9_takeHouse yX9_takeHouse 1 := ⟨nh_in (i := 1088) (by decide +kernel) rfl, rfl, nh_in (i := 80) (by decide +kernel) rfl, by decide +kernel, ⟨by decide +kernel, by decide +kernel, by decide +kernel⟩, rfl, rfl⟩
theorem yf_X9_takeWay : nh_Y kX9_takeWay yX9_takeWay 0 := ⟨nh_in (i := 1103) (by decide +kernel) rfl, rfl, nh_in (i := 80) (by decide +kernel) rfl, by decide +kernel, ⟨by decide +kernel, by decide +kernel, by decide +kernel⟩, rfl, rfl⟩
theorem yf_X9_takePart : nh_Y kX9_takePart yX9_takePart 1 := ⟨nh_in (i := 1107) (by decide +kernel) rfl, rfl, nh_in (i := 80) (by decide +kernel) rfl, by decide +kernel, ⟨by decide +kernel, by decide +kernel, by decide +kernel⟩, rfl, rfl⟩
theorem yf_X9_takeClause : nh_Y kX9_takeClause yX9_takeClause 0 := ⟨nh_in (i := 1074) (by decide +kernel) rfl, rfl, nh_in (i := 80) (by decide +kernel) rfl, by decide +kernel, ⟨by decide +kernel, by decide +kernel, by decide +kernel⟩, rfl, rfl⟩
theorem yf_X9_parish : nh_Y kX9_parish yX9_parish 0 := ⟨nh_in (i := 1062) (by decide +kernel) rfl, rfl, nh_in (i := 80) (by decide +kernel) rfl, by decide +kernel, ⟨by decide +kernel, by decide +kernel, by decide +kernel⟩, rfl, rfl⟩
theorem yf_X9_plan : nh_Y kX9_plan yX9_plan 0 := ⟨nh_in (i := 1125) (by decide +kernel) rfl, rfl, nh_in (i := 80) (by decide +kernel) rfl, by decide +kernel, ⟨by decide +kernel, by decide +kernel, by decide +kernel⟩, rfl, rfl⟩
theorem yf_X9_fault : nh_Y kX9_fault yX9_fault 0 := ⟨nh_in (i := 1130) (by decide +kernel) rfl, rfl, nh_in (i := 80) (by decide +kernel) rfl, by decide +kernel, ⟨by decide +kernel, by decide +kernel, by decide +kernel⟩, rfl, rfl⟩
theorem yf_X9_findFar : nh_Y kX9_findFar yX9_findFar 0 := ⟨nh_in (i := 1121) (by decide +kernel) rfl, rfl, nh_in (i := 80) (by decide +kernel) rfl, by decide +kernel, ⟨by decide +kernel, by decide +kernel, by decide +kernel⟩, rfl, rfl⟩
theorem yf_X9_farOf : nh_Y kX9_farOf yX9_farOf 2 := ⟨nh_in (i := 1159) (by decide +kernel) rfl, rfl, nh_in (i := 80) (by decide +kernel) rfl, by decide +kernel, ⟨by decide +kernel, by decide +kernel, by decide +kernel⟩, rfl, rfl⟩
theorem yf_X9_isHouse : nh_Y kX9_isHouse yX9_isHouse 1 := ⟨nh_in (i := 1145) (by decide +kernel) rfl, rfl, nh_in (i := 80) (by decide +kernel) rfl, by decide +kernel, ⟨by decide +kernel, by decide +kernel, by decide +kernel⟩, rfl, rfl⟩
theorem yf_X9_isPart : nh_Y kX9_isPart yX9_isPart 1 := ⟨nh_in (i := 1167) (by decide +kernel) rfl, rfl, nh_in (i := 80) (by decide +kernel) rfl, by decide +kernel, ⟨by decide +kernel, by decide +kernel, by decide +kernel⟩, rfl, rfl⟩
theorem yf_X9_isParts : nh_Y kX9_isParts yX9_isParts 1 := ⟨nh_in (i := 1295) (by decide +kernel) rfl, rfl, nh_in (i := 80) (by decide +kernel) rfl, by decide +kernel, ⟨by decide +kernel, by decide +kernel, by decide +kernel⟩, rfl, rfl⟩
theorem yf_X9_told : nh_Y kX9_told yX9_told 1 := ⟨nh_in (i := 1134) (by decide +kernel) rfl, rfl, nh_in (i := 80) (by decide +kernel) rfl, by decide +kernel, ⟨by decide +kernel, by decide +kernel, by decide +kernel⟩, rfl, rfl⟩
theorem yf_X9_partsAt : nh_Y kX9_partsAt yX9_partsAt 1 := ⟨nh_in (i := 1151) (by decide +kernel) rfl, rfl, nh_in (i := 80) (by decide +kernel) rfl, by decide +kernel, ⟨by decide +kernel, by decide +kernel, by decide +kernel⟩, rfl, rfl⟩
theorem yf_X9_house : nh_Y kX9_house yX9_house 2 := ⟨nh_in (i := 1141) (by decide +kernel) rfl, rfl, nh_in (i := 80) (by decide +kernel) rfl, by decide +kernel, ⟨by decide +kernel, by decide +kernel, by decide +kernel⟩, rfl, rfl⟩
theorem yf_X9_far : nh_Y kX9_far yX9_far 2 := ⟨nh_in (i := 1155) (by decide +kernel) rfl, rfl, nh_in (i := 80) (by decide +kernel) rfl, by decide +kernel, ⟨by decide +kernel, by decide +kernel, by decide +kernel⟩, rfl, rfl⟩
theorem yf_X9_part : nh_Y kX9_part yX9_part 2 := ⟨nh_in (i := 1163) (by decide +kernel) rfl, rfl, nh_in (i := 80) (by decide +kernel) rfl, by decide +kernel, ⟨by decide +kernel, by decide +kernel, by decide +kernel⟩, rfl, rfl⟩
theorem yf_X9_isAway : nh_Y kX9_isAway yX9_isAway 3 := ⟨nh_in (i := 1190) (by decide +kernel) rfl, rfl, nh_in (i := 80) (by decide +kernel) rfl, by decide +kernel, ⟨by decide +kernel, by decide +kernel, by decide +kernel⟩, rfl, rfl⟩
theorem yf_X9_goRound : nh_Y kX9_goRound yX9_goRound 5 := ⟨nh_in (i := 1187) (by decide +kernel) rfl, rfl, nh_in (i := 80) (by decide +kernel) rfl, by decide +kernel, ⟨by decide +kernel, by decide +kernel, by decide +kernel⟩, rfl, rfl⟩
theorem yf_X9_begin : nh_Y kX9_begin yX9_begin 1 := ⟨nh_in (i := 1183) (by decide +kernel) rfl, rfl, nh_in (i := 80) (by decide +kernel) rfl, by decide +kernel, ⟨by decide +kernel, by decide +kernel, by decide +kernel⟩, rfl, rfl⟩
theorem yf_X9_arriveAwake : nh_Y kX9_arriveAwake yX9_arriveAwake 1 := ⟨nh_in (i := 1194) (by decide +kernel) rfl, rfl, nh_in (i := 80) (by decide +kernel) rfl, by decide +kernel, ⟨by decide +kernel, by decide +kernel, by decide +kernel⟩, rfl, rfl⟩
theorem yf_X9_burn : nh_Y kX9_burn yX9_burn 3 := ⟨nh_in (i := 1179) (by decide +kernel) rfl, rfl, nh_in (i := 80) (by decide +kernel) rfl, by decide +kernel, ⟨by decide +kernel, by decide +kernel, by decide +kernel⟩, rfl, rfl⟩
theorem yf_X9_comeAll : nh_Y kX9_comeAll yX9_comeAll 0 := ⟨nh_in (i := 1202) (by decide +kernel) rfl, rfl, nh_in (i := 80) (by decide +kernel) rfl, by decide +kernel, ⟨by decide +kernel, by decide +kernel, by decide +kernel⟩, rfl, rfl⟩
theorem yf_X9_putIn : nh_Y kX9_putIn yX9_putIn 1 := ⟨nh_in (i := 1218) (by decide +kernel) rfl, rfl, nh_in (i := 80) (by decide +kernel) rfl, by decide +kernel, ⟨by decide +kernel, by decide +kernel, by decide +kernel⟩, rfl, rfl⟩
theorem yf_X9_allParts : nh_Y kX9_allParts yX9_allParts 0 := ⟨nh_in (i := 1214) (by decide +kernel) rfl, rfl, nh_in (i := 80) (by decide +kernel) rfl, by decide +kernel, ⟨by decide +kernel, by decide +kernel, by decide +kernel⟩, rfl, rfl⟩
theorem yf_X9_standsBy : nh_Y kX9_standsBy yX9_standsBy 3 := ⟨nh_in (i := 1210) (by decide +kernel) rfl, rfl, nh_in (i := 80) (by decide +kernel) rfl, by decide +kernel, ⟨by decide +kernel, by decide +kernel, by decide +kernel⟩, rfl, rfl⟩
theorem yf_X9_held : nh_Y kX9_held yX9_held 1 := ⟨nh_in (i := 1240) (by decide +kernel) rfl, rfl, nh_in (i := 80) (by decide +kernel) rfl, by decide +kernel, ⟨by decide +kernel, by decide +kernel, by decide +kernel⟩, rfl, rfl⟩
theorem yf_X9_away : nh_Y kX9_away yX9_away 1 := ⟨nh_in (i := 1171) (by decide +kernel) rfl, rfl, nh_in (i := 80) (by decide +kernel) rfl, by decide +kernel, ⟨by decide +kernel, by decide +kernel, by decide +kernel⟩, rfl, rfl⟩
theorem yf_X9_awake : nh_Y kX9_awake yX9_awake 2 := ⟨nh_in (i := 1175) (by decide +kernel) rfl, rfl, nh_in (i := 80) (by decide +kernel) rfl, by decide +kernel, ⟨by decide +kernel, by decide +kernel, by decide +kernel⟩, rfl, rfl⟩
theorem yf_X9_comes : nh_Y kX9_comes yX9_comes 3 := ⟨nh_in (i := 1198) (by decide +kernel) rfl, rfl, nh_in (i := 80) (by decide +kernel) rfl, by decide +kernel, ⟨by decide +kernel, by decide +kernel, by decide +kernel⟩, rfl, rfl⟩
theorem yf_X9_stands : nh_Y kX9_stands yX9_stands 2 := ⟨nh_in (i := 1206) (by decide +kernel) rfl, rfl, nh_in (i := 80) (by decide +kernel) rfl, by decide +kernel, ⟨by decide +kernel, by decide +kernel, by decide +kernel⟩, rfl, rfl⟩
theorem yf_X9_put : nh_Y kX9_put yX9_put 3 := ⟨nh_in (i := 1222) (by decide +kernel) rfl, rfl, nh_in (i := 80) (by decide +kernel) rfl, by decide +kernel, ⟨by decide +kernel, by decide +kernel, by decide +kernel⟩, rfl, rfl⟩
theorem yf_X9_waited : nh_Y kX9_waited yX9_waited 2 := ⟨nh_in (i := 1226) (by decide +kernel) rfl, rfl, nh_in (i := 80) (by decide +kernel) rfl, by decide +kernel, ⟨by decide +kernel, by decide +kernel, by decide +kernel⟩, rfl, rfl⟩
theorem yf_X9_oddsOf : nh_Y kX9_oddsOf yX9_oddsOf 3 := ⟨nh_in (i := 1235) (by decide +kernel) rfl, rfl, nh_in (i := 80) (by decide +kernel) rfl, by decide +kernel, ⟨by decide +kernel, by decide +kernel, by decide +kernel⟩, rfl, rfl⟩
theorem yf_X9_odds : nh_Y kX9_odds yX9_odds 4 := ⟨nh_in (i := 1230) (by decide +kernel) rfl, rfl, nh_in (i := 80) (by decide +kernel) rfl, by decide +kernel, ⟨by decide +kernel, by decide +kernel, by decide +kernel⟩, rfl, rfl⟩
theorem yf_X9_draw : nh_Y kX9_draw yX9_draw 1 := ⟨nh_in (i := 1249) (by decide +kernel) rfl, rfl, nh_in (i := 80) (by decide +kernel) rfl, by decide +kernel, ⟨by decide +kernel, by decide +kernel, by decide +kernel⟩, rfl, rfl⟩
theorem yf_X9_night : nh_Y kX9_night yX9_night 1 := ⟨nh_in (i := 1245) (by decide +kernel) rfl, rfl, nh_in (i := 80) (by decide +kernel) rfl, by decide +kernel, ⟨by decide +kernel, by decide +kernel, by decide +kernel⟩, rfl, rfl⟩
theorem yf_X9_nextRound : nh_Y kX9_nextRound yX9_nextRound 0 := ⟨nh_in (i := 1265) (by decide +kernel) rfl, rfl, nh_in (i := 80) (by decide +kernel) rfl, by decide +kernel, ⟨by decide +kernel, by decide +kernel, by decide +kernel⟩, rfl, rfl⟩
theorem yf_X9_cried : nh_Y kX9_cried yX9_cried 2 := ⟨nh_in (i := 1261) (by decide +kernel) rfl, rfl, nh_in (i := 80) (by decide +kernel) rfl, by decide +kernel, ⟨by decide +kernel, by decide +kernel, by decide +kernel⟩, rfl, rfl⟩
theorem yf_X9_crier : nh_Y kX9_crier yX9_crier 3 := ⟨nh_in (i := 1257) (by decide +kernel) rfl, rfl, nh_in (i := 80) (by decide +kernel) rfl, by decide +kernel, ⟨by decide +kernel, by decide +kernel, by decide +kernel⟩, rfl, rfl⟩
theorem yf_X9_keepAt : nh_Y kX9_keepAt yX9_keepAt 2 := ⟨nh_in (i := 1269) (by decide +kernel) rfl, rfl, nh_in (i := 80) (by decide +kernel) rfl, by decide +kernel, ⟨by decide +kernel, by decide +kernel, by decide +kernel⟩, rfl, rfl⟩
theorem yf_X9_holds : nh_Y kX9_holds yX9_holds 2 := ⟨nh_in (i := 1283) (by decide +kernel) rfl, rfl, nh_in (i := 80) (by decide +kernel) rfl, by decide +kernel, ⟨by decide +kernel, by decide +kernel, by decide +kernel⟩, rfl, rfl⟩
theorem yf_X9_movesTwo : nh_Y kX9_movesTwo yX9_movesTwo 3 := ⟨nh_in (i := 1287) (by decide +kernel) rfl, rfl, nh_in (i := 80) (by decide +kernel) rfl, by decide +kernel, ⟨by decide +kernel, by decide +kernel, by decide +kernel⟩, rfl, rfl⟩
theorem yf_X9_findMoved : nh_Y kX9_findMoved yX9_findMoved 2 := ⟨nh_in (i := 1279) (by decide +kernel) rfl, rfl, nh_in (i := 80) (by decide +kernel) rfl, by decide +kernel, ⟨by decide +kernel, by decide +kernel, by decide +kernel⟩, rfl, rfl⟩
theorem yf_X9_kept : nh_Y kX9_kept yX9_kept 3 := ⟨nh_in (i := 1273) (by decide +kernel) rfl, rfl, nh_in (i := 80) (by decide +kernel) rfl, by decide +kernel, ⟨by decide +kernel, by decide +kernel, by decide +kernel⟩, rfl, rfl⟩
theorem yf_X9_canBeIn : nh_Y kX9_canBeIn yX9_canBeIn 1 := ⟨nh_in (i := 1303) (by decide +kernel) rfl, rfl, nh_in (i := 80) (by decide +kernel) rfl, by decide +kernel, ⟨by decide +kernel, by decide +kernel, by decide +kernel⟩, rfl, rfl⟩
theorem yf_X9_reachOf : nh_Y kX9_reachOf yX9_reachOf 1 := ⟨nh_in (i := 1299) (by decide +kernel) rfl, rfl, nh_in (i := 80) (by decide +kernel) rfl, by decide +kernel, ⟨by decide +kernel, by decide +kernel, by decide +kernel⟩, rfl, rfl⟩
theorem yf_X9_reach : nh_Y kX9_reach yX9_reach 1 := ⟨nh_in (i := 1291) (by decide +kernel) rfl, rfl, nh_in (i := 80) (by decide +kernel) rfl, by decide +kernel, ⟨by decide +kernel, by decide +kernel, by decide +kernel⟩, rfl, rfl⟩
theorem yf_X9_needed : nh_Y kX9_needed yX9_needed 1 := ⟨nh_in (i := 1307) (by decide +kernel) rfl, rfl, nh_in (i := 80) (by decide +kernel) rfl, by decide +kernel, ⟨by decide +kernel, by decide +kernel, by decide +kernel⟩, rfl, rfl⟩
theorem yf_X9_fit : nh_Y kX9_fit yX9_fit 2 := ⟨nh_in (i := 1312) (by decide +kernel) rfl, rfl, nh_in (i := 80) (by decide +kernel) rfl, by decide +kernel, ⟨by decide +kernel, by decide +kernel, by decide +kernel⟩, rfl, rfl⟩
theorem yf_X9_laddersOf : nh_Y kX9_laddersOf yX9_laddersOf 2 := ⟨nh_in (i := 1320) (by decide +kernel) rfl, rfl, nh_in (i := 80) (by decide +kernel) rfl, by decide +kernel, ⟨by decide +kernel, by decide +kernel, by decide +kernel⟩, rfl, rfl⟩
theorem yf_X9_ladders : nh_Y kX9_ladders yX9_ladders 2 := ⟨nh_in (i := 1316) (by decide +kernel) rfl, rfl, nh_in (i := 80) (by decide +kernel) rfl, by decide +kernel, ⟨by decide +kernel, by decide +kernel, by decide +kernel⟩, rfl, rfl⟩
theorem yf_X9_longest : nh_Y kX9_longest yX9_longest 1 := ⟨nh_in (i := 1324) (by decide +kernel) rfl, rfl, nh_in (i := 80) (by decide +kernel) rfl, by decide +kernel, ⟨by decide +kernel, by decide +kernel, by decide +kernel⟩, rfl, rfl⟩
theorem yf_X9_cost : nh_Y kX9_cost yX9_cost 2 := ⟨nh_in (i := 1328) (by decide +kernel) rfl, rfl, nh_in (i := 80) (by decide +kernel) rfl, by decide +kernel, ⟨by decide +kernel, by decide +kernel, by decide +kernel⟩, rfl, rfl⟩
theorem yf_X9_store : nh_Y kX9_store yX9_store 1 := ⟨nh_in (i := 1333) (by decide +kernel) rfl, rfl, nh_in (i := 80) (by decide +kernel) rfl, by decide +kernel, ⟨by decide +kernel, by decide +kernel, by decide +kernel⟩, rfl, rfl⟩
theorem yf_X9_spares : nh_Y kX9_spares yX9_spares 4 := ⟨nh_in (i := 1337) (by decide +kernel) rfl, rfl, nh_in (i := 80) (by decide +kernel) rfl, by decide +kernel, ⟨by decide +kernel, by decide +kernel, by decide +kernel⟩, rfl, rfl⟩
theorem yf_X9_endAt : nh_Y kX9_endAt yX9_endAt 3 := ⟨nh_in (i := 1345) (by decide +kernel) rfl, rfl, nh_in (i := 80) (by decide +kernel) rfl, by decide +kernel, ⟨by decide +kernel, by decide +kernel, by decide +kernel⟩, rfl, rfl⟩
theorem yf_X9_two : nh_Y kX9_two yX9_two 4 := ⟨nh_in (i := 1341) (by decide +kernel) rfl, rfl, nh_in (i := 80) (by decide +kernel) rfl, by decide +kernel, ⟨by decide +kernel, by decide +kernel, by decide +kernel⟩, rfl, rfl⟩
theorem yf_X9_log : nh_Y kX9_log yX9_log 2 := ⟨nh_in (i := 1349) (by decide +kernel) rfl, rfl, nh_in (i := 80) (by decide +kernel) rfl, by decide +kernel, ⟨by decide +kernel, by decide +kernel, by decide +kernel⟩, rfl, rfl⟩
theorem yf_X9_clear : nh_Y kX9_clear yX9_clear 0 := ⟨nh_in (i := 1353) (by decide +kernel) rfl, rfl, nh_in (i := 80) (by decide +kernel) rfl, by decide +kernel, ⟨by decide +kernel, by decide +kernel, by decide +kernel⟩, rfl, rfl⟩
theorem yf_X9_lateOf : nh_Y kX9_lateOf yX9_lateOf 1 := ⟨nh_in (i := 1361) (by decide +kernel) rfl, rfl, nh_in (i := 80) (by decide +kernel) rfl, by decide +kernel, ⟨by decide +kernel, by decide +kernel, by decide +kernel⟩, rfl, rfl⟩
theorem yf_X9_late : nh_Y kX9_late yX9_late 3 := ⟨nh_in (i := 1357) (by decide +kernel) rfl, rfl, nh_in (i := 80) (by decide +kernel) rfl, by decide +kernel, ⟨by decide +kernel, by decide +kernel, by decide +kernel⟩, rfl, rfl⟩
theorem yf_X9_judge : nh_Y kX9_judge yX9_judge 3 := ⟨nh_in (i := 1365) (by decide +kernel) rfl, rfl, nh_in (i := 80) (by decide +kernel) rfl, by decide +kernel, ⟨by decide +kernel, by decide +kernel, by decide +kernel⟩, rfl, rfl⟩
theorem yf_X9_seed : nh_Y kX9_seed yX9_seed 1 := ⟨nh_in (i := 1369) (by decide +kernel) rfl, rfl, nh_in (i := 80) (by decide +kernel) rfl, by decide +kernel, ⟨by decide +kernel, by decide +kernel, by decide +kernel⟩, rfl, rfl⟩
theorem yf_X9_copy : nh_Y kX9_copy yX9_copy 2 := ⟨nh_in (i := 1377) (by decide +kernel) rfl, rfl, nh_in (i := 80) (by decide +kernel) rfl, by decide +kernel, ⟨by decide +kernel, by decide +kernel, by decide +kernel⟩, rfl, rfl⟩
theorem yf_X9_keep : nh_Y kX9_keep yX9_keep 1 := ⟨nh_in (i := 1373) (by decide +kernel) rfl, rfl, nh_in (i := 80) (by decide +kernel) rfl, by decide +kernel, ⟨by decide +kernel, by decide +kernel, by decide +kernel⟩, rfl, rfl⟩
theorem yf_X9_goBack : nh_Y kX9_goBack yX9_goBack 1 := ⟨nh_in (i := 1381) (by decide +kernel) rfl, rfl, nh_in (i := 80) (by decide +kernel) rfl, by decide +kernel, ⟨by decide +kernel, by decide +kernel, by decide +kernel⟩, rfl, rfl⟩
theorem yf_J6_bitCount_0f7a4 : nh_Y kJ6_bitCount_0f7a4 yJ6_bitCount_0f7a4 1 := ⟨nh_in (i := 824) (by decide +kernel) rfl, rfl, nh_in (i := 87) (by decide +kernel) rfl, by decide +kernel, ⟨by decide +kernel, by decide +kernel, by decide +kernel⟩, rfl, rfl⟩
theorem yf_J0_length_8abf5 : nh_Y kJ0_length_8abf5 yJ0_length_8abf5 0 := ⟨nh_in (i := 465) (by decide +kernel) rfl, rfl, nh_in (i := 81) (by decide +kernel) rfl, by decide +kernel, ⟨by decide +kernel, by decide +kernel, by decide +kernel⟩, rfl, rfl⟩
theorem yf_J0_charAt_5068e : nh_Y kJ0_charAt_5068e yJ0_charAt_5068e 1 := ⟨nh_in (i := 475) (by decide +kernel) rfl, rfl, nh_in (i := 81) (by decide +kernel) rfl, by decide +kernel, ⟨by decide +kernel, by decide +kernel, by decide +kernel⟩, rfl, rfl⟩
theorem yf_J0_coder_7d493 : nh_Y kJ0_coder_7d493 yJ0_coder_7d493 0 := ⟨nh_in (i := 469) (by decide +kernel) rfl, rfl, nh_in (i := 81) (by decide +kernel) rfl, by decide +kernel, ⟨by decide +kernel, by decide +kernel, by decide +kernel⟩, rfl, rfl⟩
theorem yf_J0_isLatin1_aae02 : nh_Y kJ0_isLatin1_aae02 yJ0_isLatin1_aae02 0 := ⟨nh_in (i := 479) (by decide +kernel) rfl, rfl, nh_in (i := 81) (by decide +kernel) rfl, by decide +kernel, ⟨by decide +kernel, by decide +kernel, by decide +kernel⟩, rfl, rfl⟩
theorem yf_J0_checkIndex_df160 : nh_Y kJ0_checkIndex_df160 yJ0_checkIndex_df160 2 := ⟨nh_in (i := 485) (by decide +kernel) rfl, rfl, nh_in (i := 81) (by decide +kernel) rfl, by decide +kernel, ⟨by decide +kernel, by decide +kernel, by decide +kernel⟩, rfl, rfl⟩
theorem yf_J1_charAt_3b067 : nh_Y kJ1_charAt_3b067 yJ1_charAt_3b067 2 := ⟨nh_in (i := 482) (by decide +kernel) rfl, rfl, nh_in (i := 82) (by decide +kernel) rfl, by decide +kernel, ⟨by decide +kernel, by decide +kernel, by decide +kernel⟩, rfl, rfl⟩
theorem yf_J7_fill_53178 : nh_Y kJ7_fill_53178 yJ7_fill_53178 2 := ⟨nh_in (i := 361) (by decide +kernel) rfl, rfl, nh_in (i := 79) (by decide +kernel) rfl, by decide +kernel, ⟨by decide +kernel, by decide +kernel, by decide +kernel⟩, rfl, rfl⟩
theorem yf_J3_checkIndex_8e157 : nh_Y kJ3_checkIndex_8e157 yJ3_checkIndex_8e157 3 := ⟨nh_in (i := 490) (by decide +kernel) rfl, rfl, nh_in (i := 83) (by decide +kernel) rfl, by decide +kernel, ⟨by decide +kernel, by decide +kernel, by decide +kernel⟩, rfl, rfl⟩
theorem ciX0 : nh_CI 0 RX0 TX0 4 tyX0 := ⟨rfl, by decide +kernel, tyX0_ok, nmX0⟩
theorem ciX1 : nh_CI 1 RX1 TX1 8 tyX1 := ⟨rfl, by decide +kernel, tyX1_ok, nmX1⟩
theorem ciX2 : nh_CI 2 RX2 TX2 5 tyX2 := ⟨rfl, by decide +kernel, tyX2_ok, nmX2⟩
theorem ciX3 : nh_CI 3 RX3 TX3 10 tyX3 := ⟨rfl, by decide +kernel, tyX3_ok, nmX3⟩
theorem ciX4 : nh_CI 4 RX4 TX4 3 tyX4 := ⟨rfl, by decide +kernel, tyX4_ok, nmX4⟩
theorem ciX5 : nh_CI 5 RX5 TX5 5 tyX5 := ⟨rfl, by decide +kernel, tyX5_ok, nmX5⟩
theorem ciX6 : nh_CI 6 RX6 TX6 6 tyX6 := ⟨rfl, by decide +kernel, tyX6_ok, nmX6⟩
theorem ciX7 : nh_CI 7 RX7 TX7 5 tyX7 := ⟨rfl, by decide +kernel, tyX7_ok, nmX7⟩
theorem ciX8 : nh_CI 8 RX8 TX8 17 tyX8 := ⟨rfl, by decide +kernel, tyX8_ok, nmX8⟩
theorem ciX9 : nh_CI 9 RX9 TX9 39 tyX9 := ⟨rfl, by decide +kernel, tyX9_ok, nmX9⟩
theorem fl_X8_12 : nh_FL RX8 12 8 0 (.object "NineHouses$Text") true := ⟨RX8, TX8, 17, tyX8, ciX8, by decide, nh_in (i := 362) (by decide +kernel) rfl, rfl, rfl⟩
theorem fl_X8_19 : nh_FL RX8 19 8 1 (.object "NineHouses$Now") true := ⟨RX8, TX8, 17, tyX8, ciX8, by decide, nh_in (i := 363) (by decide +kernel) rfl, rfl, rfl⟩
theorem fl_X8_23 : nh_FL RX8 23 8 2 (.object "NineHouses$Now") true := ⟨RX8, TX8, 17, tyX8, ciX8, by decide, nh_in (i := 364) (by decide +kernel) rfl, rfl, rfl⟩
theorem fl_X8_26 : nh_FL RX8 26 8 3 (.object "NineHouses$Now") true := ⟨RX8, TX8, 17, tyX8, ciX8, by decide, nh_in (i := 365) (by decide +kernel) rfl, rfl, rfl⟩
theorem fl_X8_32 : nh_FL RX8 32 8 4 (.object "NineHouses$Waking") true := ⟨RX8, TX8, 17, tyX8, ciX8, by decide, nh_in (i := 366) (by decide +kernel) rfl, rfl, rfl⟩
theorem fl_X8_39 : nh_FL RX8 39 8 5 (.object "NineHouses$Raising") true := ⟨RX8, TX8, 17, tyX8, ciX8, by decide, nh_in (i := 367) (by decide +kernel) rfl, rfl, rfl⟩
theorem fl_X8_43 : nh_FL RX8 43 8 6 (.object "NineHouses$Raising") true := ⟨RX8, TX8, 17, tyX8, ciX8, by decide, nh_in (i := 368) (by decide +kernel) rfl, rfl, rfl⟩
theorem fl_X8_49 : nh_FL RX8 49 8 7 (.object "NineHouses$Crier") true := ⟨RX8, TX8, 17, tyX8, ciX8, by decide, nh_in (i := 369) (by decide +kernel) rfl, rfl, rfl⟩
theorem fl_X8_56 : nh_FL RX8 56 8 15 (.object "NineHouses$Moves") true := ⟨RX8, TX8, 17, tyX8, ciX8, by decide, nh_in (i := 370) (by decide +kernel) rfl, rfl, rfl⟩
theorem fl_X8_60 : nh_FL RX8 60 8 8 (.array .int) true := ⟨RX8, TX8, 17, tyX8, ciX8, by decide, nh_in (i := 371) (by decide +kernel) rfl, rfl, rfl⟩
theorem fl_X8_64 : nh_FL RX8 64 8 9 (.array .int) true := ⟨RX8, TX8, 17, tyX8, ciX8, by decide, nh_in (i := 372) (by decide +kernel) rfl, rfl, rfl⟩
theorem fl_X8_67 : nh_FL RX8 67 8 10 (.array .int) true := ⟨RX8, TX8, 17, tyX8, ciX8, by decide, nh_in (i := 373) (by decide +kernel) rfl, rfl, rfl⟩
theorem fl_X8_73 : nh_FL RX8 73 8 11 (.object "NineHouses$Parish") false := ⟨RX8, TX8, 17, tyX8, ciX8, by decide, nh_in (i := 374) (by decide +kernel) rfl, rfl, rfl⟩
theorem fl_X8_77 : nh_FL RX8 77 8 12 (.object "NineHouses$Parish") false := ⟨RX8, TX8, 17, tyX8, ciX8, by decide, nh_in (i := 375) (by decide +kernel) rfl, rfl, rfl⟩
theorem fl_X8_83 : nh_FL RX8 83 8 13 (.object "NineHouses$Plan") false := ⟨RX8, TX8, 17, tyX8, ciX8, by decide, nh_in (i := 376) (by decide +kernel) rfl, rfl, rfl⟩
theorem fl_X8_87 : nh_FL RX8 87 8 14 (.object "NineHouses$Plan") false := ⟨RX8, TX8, 17, tyX8, ciX8, by decide, nh_in (i := 377) (by decide +kernel) rfl, rfl, rfl⟩
theorem fl_X8_94 : nh_FL RX8 94 6 1 (.int) false := ⟨RX6, TX6, 6, tyX6, ciX6, by decide, nh_in (i := 104) (by decide +kernel) rfl, rfl, rfl⟩
theorem fl_X8_114 : nh_FL RX8 114 6 3 (.int) false := ⟨RX6, TX6, 6, tyX6, ciX6, by decide, nh_in (i := 109) (by decide +kernel) rfl, rfl, rfl⟩
theorem fl_X8_117 : nh_FL RX8 117 3 0 (.int) false := ⟨RX3, TX3, 10, tyX3, ciX3, by decide, nh_in (i := 298) (by decide +kernel) rfl, rfl, rfl⟩
theorem fl_X8_124 : nh_FL RX8 124 4 0 (.int) false := ⟨RX4, TX4, 3, tyX4, ciX4, by decide, nh_in (i := 220) (by decide +kernel) rfl, rfl, rfl⟩
theorem fl_X8_127 : nh_FL RX8 127 6 4 (.int) false := ⟨RX6, TX6, 6, tyX6, ciX6, by decide, nh_in (i := 111) (by decide +kernel) rfl, rfl, rfl⟩
theorem fl_X8_130 : nh_FL RX8 130 3 1 (.int) false := ⟨RX3, TX3, 10, tyX3, ciX3, by decide, nh_in (i := 306) (by decide +kernel) rfl, rfl, rfl⟩
theorem fl_X8_133 : nh_FL RX8 133 2 2 (.int) false := ⟨RX2, TX2, 5, tyX2, ciX2, by decide, nh_in (i := 140) (by decide +kernel) rfl, rfl, rfl⟩
theorem fl_X8_136 : nh_FL RX8 136 8 16 (.int) false := ⟨RX8, TX8, 17, tyX8, ciX8, by decide, nh_in (i := 378) (by decide +kernel) rfl, rfl, rfl⟩
theorem fl_X8_148 : nh_FL RX8 148 3 2 (.array .int) true := ⟨RX3, TX3, 10, tyX3, ciX3, by decide, nh_in (i := 309) (by decide +kernel) rfl, rfl, rfl⟩
theorem fl_X8_151 : nh_FL RX8 151 3 3 (.array .int) true := ⟨RX3, TX3, 10, tyX3, ciX3, by decide, nh_in (i := 312) (by decide +kernel) rfl, rfl, rfl⟩
theorem fl_X8_154 : nh_FL RX8 154 3 4 (.array (.array .int)) true := ⟨RX3, TX3, 10, tyX3, ciX3, by decide, nh_in (i := 314) (by decide +kernel) rfl, rfl, rfl⟩
theorem fl_X8_162 : nh_FL RX8 162 3 5 (.array (.array .int)) true := ⟨RX3, TX3, 10, tyX3, ciX3, by decide, nh_in (i := 317) (by decide +kernel) rfl, rfl, rfl⟩
theorem fl_X8_168 : nh_FL RX8 168 2 0 (.array .int) true := ⟨RX2, TX2, 5, tyX2, ciX2, by decide, nh_in (i := 135) (by decide +kernel) rfl, rfl, rfl⟩
theorem fl_X8_171 : nh_FL RX8 171 3 7 (.array .int) true := ⟨RX3, TX3, 10, tyX3, ciX3, by decide, nh_in (i := 322) (by decide +kernel) rfl, rfl, rfl⟩
theorem fl_X8_174 : nh_FL RX8 174 3 8 (.array .int) true := ⟨RX3, TX3, 10, tyX3, ciX3, by decide, nh_in (i := 324) (by decide +kernel) rfl, rfl, rfl⟩
theorem fl_X8_177 : nh_FL RX8 177 3 9 (.array .int) true := ⟨RX3, TX3, 10, tyX3, ciX3, by decide, nh_in (i := 327) (by decide +kernel) rfl, rfl, rfl⟩
theorem fl_X8_180 : nh_FL RX8 180 2 1 (.array .int) true := ⟨RX2, TX2, 5, tyX2, ciX2, by decide, nh_in (i := 137) (by decide +kernel) rfl, rfl, rfl⟩
theorem fl_X8_191 : nh_FL RX8 191 7 0 (.array .int) true := ⟨RX7, TX7, 5, tyX7, ciX7, by decide, nh_in (i := 163) (by decide +kernel) rfl, rfl, rfl⟩
theorem fl_X8_201 : nh_FL RX8 201 5 2 (.int) false := ⟨RX5, TX5, 5, tyX5, ciX5, by decide, nh_in (i := 191) (by decide +kernel) rfl, rfl, rfl⟩
theorem fl_X8_202 : nh_FL RX8 202 5 1 (.array .int) true := ⟨RX5, TX5, 5, tyX5, ciX5, by decide, nh_in (i := 189) (by decide +kernel) rfl, rfl, rfl⟩
theorem fl_X8_205 : nh_FL RX8 205 5 3 (.int) false := ⟨RX5, TX5, 5, tyX5, ciX5, by decide, nh_in (i := 193) (by decide +kernel) rfl, rfl, rfl⟩
theorem fl_X8_254 : nh_FL RX8 254 0 2 (.int) false := ⟨RX0, TX0, 4, tyX0, ciX0, by decide, nh_in (i := 240) (by decide +kernel) rfl, rfl, rfl⟩
theorem fl_X8_257 : nh_FL RX8 257 0 0 (.object "NineHouses$Plan") true := ⟨RX0, TX0, 4, tyX0, ciX0, by decide, nh_in (i := 236) (by decide +kernel) rfl, rfl, rfl⟩
theorem fl_X8_258 : nh_FL RX8 258 0 1 (.array .int) true := ⟨RX0, TX0, 4, tyX0, ciX0, by decide, nh_in (i := 238) (by decide +kernel) rfl, rfl, rfl⟩
theorem fl_X8_264 : nh_FL RX8 264 1 0 (.int) false := ⟨RX1, TX1, 8, tyX1, ciX1, by decide, nh_in (i := 262) (by decide +kernel) rfl, rfl, rfl⟩
theorem fl_X8_265 : nh_FL RX8 265 1 1 (.array .int) true := ⟨RX1, TX1, 8, tyX1, ciX1, by decide, nh_in (i := 264) (by decide +kernel) rfl, rfl, rfl⟩
theorem fl_X8_268 : nh_FL RX8 268 1 2 (.array .int) true := ⟨RX1, TX1, 8, tyX1, ciX1, by decide, nh_in (i := 266) (by decide +kernel) rfl, rfl, rfl⟩
theorem fl_X8_315 : nh_FL RX8 315 2 3 (.int) false := ⟨RX2, TX2, 5, tyX2, ciX2, by decide, nh_in (i := 142) (by decide +kernel) rfl, rfl, rfl⟩
theorem fl_X8_322 : nh_FL RX8 322 2 4 (.boolean) false := ⟨RX2, TX2, 5, tyX2, ciX2, by decide, nh_in (i := 143) (by decide +kernel) rfl, rfl, rfl⟩
theorem fl_X8_329 : nh_FL RX8 329 5 0 (.array .int) true := ⟨RX5, TX5, 5, tyX5, ciX5, by decide, nh_in (i := 187) (by decide +kernel) rfl, rfl, rfl⟩
theorem fl_X0_12 : nh_FL RX0 12 0 0 (.object "NineHouses$Plan") true := ⟨RX0, TX0, 4, tyX0, ciX0, by decide, nh_in (i := 235) (by decide +kernel) rfl, rfl, rfl⟩
theorem fl_X0_18 : nh_FL RX0 18 0 1 (.array .int) true := ⟨RX0, TX0, 4, tyX0, ciX0, by decide, nh_in (i := 237) (by decide +kernel) rfl, rfl, rfl⟩
theorem fl_X0_22 : nh_FL RX0 22 0 3 (.int) false := ⟨RX0, TX0, 4, tyX0, ciX0, by decide, nh_in (i := 241) (by decide +kernel) rfl, rfl, rfl⟩
theorem fl_X0_26 : nh_FL RX0 26 4 0 (.int) false := ⟨RX4, TX4, 3, tyX4, ciX4, by decide, nh_in (i := 219) (by decide +kernel) rfl, rfl, rfl⟩
theorem fl_X0_29 : nh_FL RX0 29 3 0 (.int) false := ⟨RX3, TX3, 10, tyX3, ciX3, by decide, nh_in (i := 296) (by decide +kernel) rfl, rfl, rfl⟩
theorem fl_X0_34 : nh_FL RX0 34 3 1 (.int) false := ⟨RX3, TX3, 10, tyX3, ciX3, by decide, nh_in (i := 303) (by decide +kernel) rfl, rfl, rfl⟩
theorem fl_X0_43 : nh_FL RX0 43 4 1 (.array .int) true := ⟨RX4, TX4, 3, tyX4, ciX4, by decide, nh_in (i := 223) (by decide +kernel) rfl, rfl, rfl⟩
theorem fl_X0_46 : nh_FL RX0 46 4 2 (.array .int) true := ⟨RX4, TX4, 3, tyX4, ciX4, by decide, nh_in (i := 226) (by decide +kernel) rfl, rfl, rfl⟩
theorem fl_X0_49 : nh_FL RX0 49 0 2 (.int) false := ⟨RX0, TX0, 4, tyX0, ciX0, by decide, nh_in (i := 239) (by decide +kernel) rfl, rfl, rfl⟩
theorem fl_X0_52 : nh_FL RX0 52 2 2 (.int) false := ⟨RX2, TX2, 5, tyX2, ciX2, by decide, nh_in (i := 139) (by decide +kernel) rfl, rfl, rfl⟩
theorem fl_X0_61 : nh_FL RX0 61 2 0 (.array .int) true := ⟨RX2, TX2, 5, tyX2, ciX2, by decide, nh_in (i := 134) (by decide +kernel) rfl, rfl, rfl⟩
theorem fl_X1_9 : nh_FL RX1 9 1 1 (.array .int) true := ⟨RX1, TX1, 8, tyX1, ciX1, by decide, nh_in (i := 263) (by decide +kernel) rfl, rfl, rfl⟩
theorem fl_X1_15 : nh_FL RX1 15 1 2 (.array .int) true := ⟨RX1, TX1, 8, tyX1, ciX1, by decide, nh_in (i := 265) (by decide +kernel) rfl, rfl, rfl⟩
theorem fl_X1_18 : nh_FL RX1 18 1 3 (.array .int) true := ⟨RX1, TX1, 8, tyX1, ciX1, by decide, nh_in (i := 267) (by decide +kernel) rfl, rfl, rfl⟩
theorem fl_X1_23 : nh_FL RX1 23 1 4 (.array (.array .int)) true := ⟨RX1, TX1, 8, tyX1, ciX1, by decide, nh_in (i := 268) (by decide +kernel) rfl, rfl, rfl⟩
theorem fl_X1_26 : nh_FL RX1 26 1 5 (.array .int) true := ⟨RX1, TX1, 8, tyX1, ciX1, by decide, nh_in (i := 269) (by decide +kernel) rfl, rfl, rfl⟩
theorem fl_X1_32 : nh_FL RX1 32 1 6 (.object "NineHouses$Raising") true := ⟨RX1, TX1, 8, tyX1, ciX1, by decide, nh_in (i := 270) (by decide +kernel) rfl, rfl, rfl⟩
theorem fl_X1_36 : nh_FL RX1 36 1 7 (.int) false := ⟨RX1, TX1, 8, tyX1, ciX1, by decide, nh_in (i := 271) (by decide +kernel) rfl, rfl, rfl⟩
theorem fl_X1_46 : nh_FL RX1 46 3 0 (.int) false := ⟨RX3, TX3, 10, tyX3, ciX3, by decide, nh_in (i := 297) (by decide +kernel) rfl, rfl, rfl⟩
theorem fl_X1_61 : nh_FL RX1 61 1 0 (.int) false := ⟨RX1, TX1, 8, tyX1, ciX1, by decide, nh_in (i := 261) (by decide +kernel) rfl, rfl, rfl⟩
theorem fl_X1_71 : nh_FL RX1 71 3 1 (.int) false := ⟨RX3, TX3, 10, tyX3, ciX3, by decide, nh_in (i := 305) (by decide +kernel) rfl, rfl, rfl⟩
theorem fl_X1_78 : nh_FL RX1 78 5 0 (.array .int) true := ⟨RX5, TX5, 5, tyX5, ciX5, by decide, nh_in (i := 186) (by decide +kernel) rfl, rfl, rfl⟩
theorem fl_X2_9 : nh_FL RX2 9 2 0 (.array .int) true := ⟨RX2, TX2, 5, tyX2, ciX2, by decide, nh_in (i := 133) (by decide +kernel) rfl, rfl, rfl⟩
theorem fl_X2_15 : nh_FL RX2 15 2 1 (.array .int) true := ⟨RX2, TX2, 5, tyX2, ciX2, by decide, nh_in (i := 136) (by decide +kernel) rfl, rfl, rfl⟩
theorem fl_X2_18 : nh_FL RX2 18 2 2 (.int) false := ⟨RX2, TX2, 5, tyX2, ciX2, by decide, nh_in (i := 138) (by decide +kernel) rfl, rfl, rfl⟩
theorem fl_X2_22 : nh_FL RX2 22 3 1 (.int) false := ⟨RX3, TX3, 10, tyX3, ciX3, by decide, nh_in (i := 302) (by decide +kernel) rfl, rfl, rfl⟩
theorem fl_X2_27 : nh_FL RX2 27 3 6 (.array .int) true := ⟨RX3, TX3, 10, tyX3, ciX3, by decide, nh_in (i := 319) (by decide +kernel) rfl, rfl, rfl⟩
theorem fl_X2_36 : nh_FL RX2 36 2 3 (.int) false := ⟨RX2, TX2, 5, tyX2, ciX2, by decide, nh_in (i := 141) (by decide +kernel) rfl, rfl, rfl⟩
theorem fl_X3_9 : nh_FL RX3 9 3 2 (.array .int) true := ⟨RX3, TX3, 10, tyX3, ciX3, by decide, nh_in (i := 307) (by decide +kernel) rfl, rfl, rfl⟩
theorem fl_X3_15 : nh_FL RX3 15 3 3 (.array .int) true := ⟨RX3, TX3, 10, tyX3, ciX3, by decide, nh_in (i := 310) (by decide +kernel) rfl, rfl, rfl⟩
theorem fl_X3_20 : nh_FL RX3 20 3 4 (.array (.array .int)) true := ⟨RX3, TX3, 10, tyX3, ciX3, by decide, nh_in (i := 313) (by decide +kernel) rfl, rfl, rfl⟩
theorem fl_X3_23 : nh_FL RX3 23 3 5 (.array (.array .int)) true := ⟨RX3, TX3, 10, tyX3, ciX3, by decide, nh_in (i := 315) (by decide +kernel) rfl, rfl, rfl⟩
theorem fl_X3_26 : nh_FL RX3 26 3 6 (.array .int) true := ⟨RX3, TX3, 10, tyX3, ciX3, by decide, nh_in (i := 318) (by decide +kernel) rfl, rfl, rfl⟩
theorem fl_X3_29 : nh_FL RX3 29 3 7 (.array .int) true := ⟨RX3, TX3, 10, tyX3, ciX3, by decide, nh_in (i := 320) (by decide +kernel) rfl, rfl, rfl⟩
theorem fl_X3_32 : nh_FL RX3 32 3 8 (.array .int) true := ⟨RX3, TX3, 10, tyX3, ciX3, by decide, nh_in (i := 323) (by decide +kernel) rfl, rfl, rfl⟩
theorem fl_X3_35 : nh_FL RX3 35 3 9 (.array .int) true := ⟨RX3, TX3, 10, tyX3, ciX3, by decide, nh_in (i := 325) (by decide +kernel) rfl, rfl, rfl⟩
theorem fl_X3_73 : nh_FL RX3 73 3 1 (.int) false := ⟨RX3, TX3, 10, tyX3, ciX3, by decide, nh_in (i := 304) (by decide +kernel) rfl, rfl, rfl⟩
theorem fl_X3_87 : nh_FL RX3 87 3 0 (.int) false := ⟨RX3, TX3, 10, tyX3, ciX3, by decide, nh_in (i := 300) (by decide +kernel) rfl, rfl, rfl⟩
theorem fl_X3_98 : nh_FL RX3 98 6 2 (.int) false := ⟨RX6, TX6, 6, tyX6, ciX6, by decide, nh_in (i := 107) (by decide +kernel) rfl, rfl, rfl⟩
theorem fl_X4_9 : nh_FL RX4 9 4 1 (.array .int) true := ⟨RX4, TX4, 3, tyX4, ciX4, by decide, nh_in (i := 222) (by decide +kernel) rfl, rfl, rfl⟩
theorem fl_X4_15 : nh_FL RX4 15 4 2 (.array .int) true := ⟨RX4, TX4, 3, tyX4, ciX4, by decide, nh_in (i := 225) (by decide +kernel) rfl, rfl, rfl⟩
theorem fl_X4_18 : nh_FL RX4 18 4 0 (.int) false := ⟨RX4, TX4, 3, tyX4, ciX4, by decide, nh_in (i := 218) (by decide +kernel) rfl, rfl, rfl⟩
theorem fl_X4_41 : nh_FL RX4 41 6 2 (.int) false := ⟨RX6, TX6, 6, tyX6, ciX6, by decide, nh_in (i := 106) (by decide +kernel) rfl, rfl, rfl⟩
theorem fl_X5_9 : nh_FL RX5 9 5 0 (.array .int) true := ⟨RX5, TX5, 5, tyX5, ciX5, by decide, nh_in (i := 185) (by decide +kernel) rfl, rfl, rfl⟩
theorem fl_X5_15 : nh_FL RX5 15 5 1 (.array .int) true := ⟨RX5, TX5, 5, tyX5, ciX5, by decide, nh_in (i := 188) (by decide +kernel) rfl, rfl, rfl⟩
theorem fl_X5_18 : nh_FL RX5 18 5 3 (.int) false := ⟨RX5, TX5, 5, tyX5, ciX5, by decide, nh_in (i := 192) (by decide +kernel) rfl, rfl, rfl⟩
theorem fl_X5_22 : nh_FL RX5 22 5 4 (.array .int) true := ⟨RX5, TX5, 5, tyX5, ciX5, by decide, nh_in (i := 194) (by decide +kernel) rfl, rfl, rfl⟩
theorem fl_X5_25 : nh_FL RX5 25 3 1 (.int) false := ⟨RX3, TX3, 10, tyX3, ciX3, by decide, nh_in (i := 301) (by decide +kernel) rfl, rfl, rfl⟩
theorem fl_X5_40 : nh_FL RX5 40 5 2 (.int) false := ⟨RX5, TX5, 5, tyX5, ciX5, by decide, nh_in (i := 190) (by decide +kernel) rfl, rfl, rfl⟩
theorem fl_X5_59 : nh_FL RX5 59 3 9 (.array .int) true := ⟨RX3, TX3, 10, tyX3, ciX3, by decide, nh_in (i := 326) (by decide +kernel) rfl, rfl, rfl⟩
theorem fl_X5_62 : nh_FL RX5 62 3 7 (.array .int) true := ⟨RX3, TX3, 10, tyX3, ciX3, by decide, nh_in (i := 321) (by decide +kernel) rfl, rfl, rfl⟩
theorem fl_X6_9 : nh_FL RX6 9 6 0 (.array .char) true := ⟨RX6, TX6, 6, tyX6, ciX6, by decide, nh_in (i := 102) (by decide +kernel) rfl, rfl, rfl⟩
theorem fl_X6_15 : nh_FL RX6 15 6 4 (.int) false := ⟨RX6, TX6, 6, tyX6, ciX6, by decide, nh_in (i := 110) (by decide +kernel) rfl, rfl, rfl⟩
theorem fl_X6_19 : nh_FL RX6 19 6 1 (.int) false := ⟨RX6, TX6, 6, tyX6, ciX6, by decide, nh_in (i := 103) (by decide +kernel) rfl, rfl, rfl⟩
theorem fl_X6_24 : nh_FL RX6 24 6 5 (.int) false := ⟨RX6, TX6, 6, tyX6, ciX6, by decide, nh_in (i := 112) (by decide +kernel) rfl, rfl, rfl⟩
theorem fl_X6_27 : nh_FL RX6 27 6 2 (.int) false := ⟨RX6, TX6, 6, tyX6, ciX6, by decide, nh_in (i := 105) (by decide +kernel) rfl, rfl, rfl⟩
theorem fl_X6_30 : nh_FL RX6 30 6 3 (.int) false := ⟨RX6, TX6, 6, tyX6, ciX6, by decide, nh_in (i := 108) (by decide +kernel) rfl, rfl, rfl⟩
theorem fl_X7_9 : nh_FL RX7 9 7 0 (.array .int) true := ⟨RX7, TX7, 5, tyX7, ciX7, by decide, nh_in (i := 162) (by decide +kernel) rfl, rfl, rfl⟩
theorem fl_X7_15 : nh_FL RX7 15 7 1 (.array .int) true := ⟨RX7, TX7, 5, tyX7, ciX7, by decide, nh_in (i := 164) (by decide +kernel) rfl, rfl, rfl⟩
theorem fl_X7_18 : nh_FL RX7 18 7 2 (.array .int) true := ⟨RX7, TX7, 5, tyX7, ciX7, by decide, nh_in (i := 165) (by decide +kernel) rfl, rfl, rfl⟩
theorem fl_X7_21 : nh_FL RX7 21 7 3 (.array .int) true := ⟨RX7, TX7, 5, tyX7, ciX7, by decide, nh_in (i := 166) (by decide +kernel) rfl, rfl, rfl⟩
theorem fl_X7_30 : nh_FL RX7 30 7 4 (.int) false := ⟨RX7, TX7, 5, tyX7, ciX7, by decide, nh_in (i := 167) (by decide +kernel) rfl, rfl, rfl⟩
theorem fl_X7_42 : nh_FL RX7 42 3 5 (.array (.array .int)) true := ⟨RX3, TX3, 10, tyX3, ciX3, by decide, nh_in (i := 316) (by decide +kernel) rfl, rfl, rfl⟩
theorem fl_X7_48 : nh_FL RX7 48 4 0 (.int) false := ⟨RX4, TX4, 3, tyX4, ciX4, by decide, nh_in (i := 221) (by decide +kernel) rfl, rfl, rfl⟩
theorem fl_X7_51 : nh_FL RX7 51 4 1 (.array .int) true := ⟨RX4, TX4, 3, tyX4, ciX4, by decide, nh_in (i := 224) (by decide +kernel) rfl, rfl, rfl⟩
theorem fl_X7_54 : nh_FL RX7 54 4 2 (.array .int) true := ⟨RX4, TX4, 3, tyX4, ciX4, by decide, nh_in (i := 227) (by decide +kernel) rfl, rfl, rfl⟩
theorem fl_X7_61 : nh_FL RX7 61 3 3 (.array .int) true := ⟨RX3, TX3, 10, tyX3, ciX3, by decide, nh_in (i := 311) (by decide +kernel) rfl, rfl, rfl⟩
theorem fl_X7_64 : nh_FL RX7 64 3 2 (.array .int) true := ⟨RX3, TX3, 10, tyX3, ciX3, by decide, nh_in (i := 308) (by decide +kernel) rfl, rfl, rfl⟩
theorem fl_X7_67 : nh_FL RX7 67 3 0 (.int) false := ⟨RX3, TX3, 10, tyX3, ciX3, by decide, nh_in (i := 299) (by decide +kernel) rfl, rfl, rfl⟩
theorem fl_X9_7 : nh_FL RX9 7 9 0 (.array .int) true := ⟨RX9, TX9, 39, tyX9, ciX9, by decide, nh_in (i := 929) (by decide +kernel) rfl, rfl, rfl⟩
theorem fl_X9_13 : nh_FL RX9 13 9 1 (.array .boolean) true := ⟨RX9, TX9, 39, tyX9, ciX9, by decide, nh_in (i := 930) (by decide +kernel) rfl, rfl, rfl⟩
theorem fl_X9_17 : nh_FL RX9 17 9 2 (.array .int) true := ⟨RX9, TX9, 39, tyX9, ciX9, by decide, nh_in (i := 931) (by decide +kernel) rfl, rfl, rfl⟩
theorem fl_X9_20 : nh_FL RX9 20 9 3 (.array .int) true := ⟨RX9, TX9, 39, tyX9, ciX9, by decide, nh_in (i := 932) (by decide +kernel) rfl, rfl, rfl⟩
theorem fl_X9_23 : nh_FL RX9 23 9 4 (.array .int) true := ⟨RX9, TX9, 39, tyX9, ciX9, by decide, nh_in (i := 933) (by decide +kernel) rfl, rfl, rfl⟩
theorem fl_X9_26 : nh_FL RX9 26 9 5 (.array .int) true := ⟨RX9, TX9, 39, tyX9, ciX9, by decide, nh_in (i := 934) (by decide +kernel) rfl, rfl, rfl⟩
theorem fl_X9_29 : nh_FL RX9 29 9 6 (.array .int) true := ⟨RX9, TX9, 39, tyX9, ciX9, by decide, nh_in (i := 935) (by decide +kernel) rfl, rfl, rfl⟩
theorem fl_X9_32 : nh_FL RX9 32 9 7 (.array .int) true := ⟨RX9, TX9, 39, tyX9, ciX9, by decide, nh_in (i := 936) (by decide +kernel) rfl, rfl, rfl⟩
theorem fl_X9_35 : nh_FL RX9 35 9 8 (.array .int) true := ⟨RX9, TX9, 39, tyX9, ciX9, by decide, nh_in (i := 937) (by decide +kernel) rfl, rfl, rfl⟩
theorem fl_X9_38 : nh_FL RX9 38 9 9 (.array .int) true := ⟨RX9, TX9, 39, tyX9, ciX9, by decide, nh_in (i := 938) (by decide +kernel) rfl, rfl, rfl⟩
theorem fl_X9_41 : nh_FL RX9 41 9 10 (.array .int) true := ⟨RX9, TX9, 39, tyX9, ciX9, by decide, nh_in (i := 939) (by decide +kernel) rfl, rfl, rfl⟩
theorem fl_X9_44 : nh_FL RX9 44 9 13 (.array .int) true := ⟨RX9, TX9, 39, tyX9, ciX9, by decide, nh_in (i := 942) (by decide +kernel) rfl, rfl, rfl⟩
theorem fl_X9_47 : nh_FL RX9 47 9 15 (.array .int) true := ⟨RX9, TX9, 39, tyX9, ciX9, by decide, nh_in (i := 944) (by decide +kernel) rfl, rfl, rfl⟩
theorem fl_X9_50 : nh_FL RX9 50 9 21 (.int) false := ⟨RX9, TX9, 39, tyX9, ciX9, by decide, nh_in (i := 950) (by decide +kernel) rfl, rfl, rfl⟩
theorem fl_X9_54 : nh_FL RX9 54 9 22 (.array .int) true := ⟨RX9, TX9, 39, tyX9, ciX9, by decide, nh_in (i := 951) (by decide +kernel) rfl, rfl, rfl⟩
theorem fl_X9_57 : nh_FL RX9 57 9 23 (.array .int) true := ⟨RX9, TX9, 39, tyX9, ciX9, by decide, nh_in (i := 952) (by decide +kernel) rfl, rfl, rfl⟩
theorem fl_X9_60 : nh_FL RX9 60 9 24 (.array .int) true := ⟨RX9, TX9, 39, tyX9, ciX9, by decide, nh_in (i := 953) (by decide +kernel) rfl, rfl, rfl⟩
theorem fl_X9_63 : nh_FL RX9 63 9 25 (.array .int) true := ⟨RX9, TX9, 39, tyX9, ciX9, by decide, nh_in (i := 954) (by decide +kernel) rfl, rfl, rfl⟩
theorem fl_X9_66 : nh_FL RX9 66 9 27 (.array .int) true := ⟨RX9, TX9, 39, tyX9, ciX9, by decide, nh_in (i := 956) (by decide +kernel) rfl, rfl, rfl⟩
theorem fl_X9_69 : nh_FL RX9 69 9 28 (.array .int) true := ⟨RX9, TX9, 39, tyX9, ciX9, by decide, nh_in (i := 957) (by decide +kernel) rfl, rfl, rfl⟩
theorem fl_X9_72 : nh_FL RX9 72 9 29 (.array .int) true := ⟨RX9, TX9, 39, tyX9, ciX9, by decide, nh_in (i := 958) (by decide +kernel) rfl, rfl, rfl⟩
theorem fl_X9_75 : nh_FL RX9 75 9 30 (.array .int) true := ⟨RX9, TX9, 39, tyX9, ciX9, by decide, nh_in (i := 959) (by decide +kernel) rfl, rfl, rfl⟩
theorem fl_X9_78 : nh_FL RX9 78 9 32 (.array .int) true := ⟨RX9, TX9, 39, tyX9, ciX9, by decide, nh_in (i := 961) (by decide +kernel) rfl, rfl, rfl⟩
theorem fl_X9_81 : nh_FL RX9 81 9 33 (.array .int) true := ⟨RX9, TX9, 39, tyX9, ciX9, by decide, nh_in (i := 962) (by decide +kernel) rfl, rfl, rfl⟩
theorem fl_X9_84 : nh_FL RX9 84 9 35 (.array .int) true := ⟨RX9, TX9, 39, tyX9, ciX9, by decide, nh_in (i := 964) (by decide +kernel) rfl, rfl, rfl⟩
theorem fl_X9_87 : nh_FL RX9 87 9 36 (.array .int) true := ⟨RX9, TX9, 39, tyX9, ciX9, by decide, nh_in (i := 965) (by decide +kernel) rfl, rfl, rfl⟩
theorem fl_X9_90 : nh_FL RX9 90 9 38 (.array .int) true := ⟨RX9, TX9, 39, tyX9, ciX9, by decide, nh_in (i := 967) (by decide +kernel) rfl, rfl, rfl⟩
theorem fl_X9_100 : nh_FL RX9 100 9 16 (.int) false := ⟨RX9, TX9, 39, tyX9, ciX9, by decide, nh_in (i := 945) (by decide +kernel) rfl, rfl, rfl⟩
theorem fl_X9_106 : nh_FL RX9 106 9 17 (.int) false := ⟨RX9, TX9, 39, tyX9, ciX9, by decide, nh_in (i := 946) (by decide +kernel) rfl, rfl, rfl⟩
theorem fl_X9_109 : nh_FL RX9 109 9 20 (.int) false := ⟨RX9, TX9, 39, tyX9, ciX9, by decide, nh_in (i := 949) (by decide +kernel) rfl, rfl, rfl⟩
theorem fl_X9_116 : nh_FL RX9 116 9 18 (.int) false := ⟨RX9, TX9, 39, tyX9, ciX9, by decide, nh_in (i := 947) (by decide +kernel) rfl, rfl, rfl⟩
theorem fl_X9_123 : nh_FL RX9 123 9 19 (.int) false := ⟨RX9, TX9, 39, tyX9, ciX9, by decide, nh_in (i := 948) (by decide +kernel) rfl, rfl, rfl⟩
theorem fl_X9_173 : nh_FL RX9 173 9 11 (.int) false := ⟨RX9, TX9, 39, tyX9, ciX9, by decide, nh_in (i := 940) (by decide +kernel) rfl, rfl, rfl⟩
theorem fl_X9_176 : nh_FL RX9 176 9 14 (.int) false := ⟨RX9, TX9, 39, tyX9, ciX9, by decide, nh_in (i := 943) (by decide +kernel) rfl, rfl, rfl⟩
theorem fl_X9_179 : nh_FL RX9 179 9 37 (.int) false := ⟨RX9, TX9, 39, tyX9, ciX9, by decide, nh_in (i := 966) (by decide +kernel) rfl, rfl, rfl⟩
theorem fl_X9_186 : nh_FL RX9 186 9 12 (.int) false := ⟨RX9, TX9, 39, tyX9, ciX9, by decide, nh_in (i := 941) (by decide +kernel) rfl, rfl, rfl⟩
theorem fl_X9_209 : nh_FL RX9 209 9 26 (.int) false := ⟨RX9, TX9, 39, tyX9, ciX9, by decide, nh_in (i := 955) (by decide +kernel) rfl, rfl, rfl⟩
theorem fl_X9_226 : nh_FL RX9 226 9 31 (.int) false := ⟨RX9, TX9, 39, tyX9, ciX9, by decide, nh_in (i := 960) (by decide +kernel) rfl, rfl, rfl⟩
theorem fl_X9_271 : nh_FL RX9 271 9 34 (.int) false := ⟨RX9, TX9, 39, tyX9, ciX9, by decide, nh_in (i := 963) (by decide +kernel) rfl, rfl, rfl⟩
theorem kc_X8_93 : Cond.constant RX8 93 (-1000002) ∈ nh_tb := nh_in (i := 418) (by decide +kernel) rfl
theorem kc_X8_98 : Cond.constant RX8 98 (-1000004) ∈ nh_tb := nh_in (i := 419) (by decide +kernel) rfl
theorem kc_X8_120 : Cond.constant RX8 120 (-1000003) ∈ nh_tb := nh_in (i := 572) (by decide +kernel) rfl
theorem kc_X8_147 : Cond.constant RX8 147 (-1000001) ∈ nh_tb := nh_in (i := 613) (by decide +kernel) rfl
theorem kc_X8_241 : Cond.constantLong RX8 241 (1000000) ∈ nh_tb := nh_in (i := 731) (by decide +kernel) rfl
theorem kc_X2_39 : Cond.constantLong RX2 39 (1103515245) ∈ nh_tb := nh_in (i := 740) (by decide +kernel) rfl
theorem kc_X2_41 : Cond.constantLong RX2 41 (12345) ∈ nh_tb := nh_in (i := 741) (by decide +kernel) rfl
theorem kc_X2_43 : Cond.constantLong RX2 43 (2147483647) ∈ nh_tb := nh_in (i := 742) (by decide +kernel) rfl
theorem kc_X2_45 : Cond.constant RX2 45 (65536) ∈ nh_tb := nh_in (i := 743) (by decide +kernel) rfl
theorem kc_X3_85 : Cond.constantLong RX3 85 (1000000000) ∈ nh_tb := nh_in (i := 725) (by decide +kernel) rfl
theorem kc_X3_90 : Cond.constantLong RX3 90 (100) ∈ nh_tb := nh_in (i := 726) (by decide +kernel) rfl
theorem kc_X6_22 : Cond.constantLong RX6 22 (255) ∈ nh_tb := nh_in (i := 424) (by decide +kernel) rfl
theorem kc_L_13 : Cond.constantLong RL 13 (4294967295) ∈ nh_tb := nh_in (i := 1382) (by decide +kernel) rfl
theorem kc_X9_93 : Cond.constantLong RX9 93 (8) ∈ nh_tb := nh_in (i := 1052) (by decide +kernel) rfl
theorem kc_X9_99 : Cond.constant RX9 99 (-1000002) ∈ nh_tb := nh_in (i := 1056) (by decide +kernel) rfl
theorem kc_X9_103 : Cond.constant RX9 103 (-1000004) ∈ nh_tb := nh_in (i := 1057) (by decide +kernel) rfl
theorem kc_X9_104 : Cond.constantLong RX9 104 (255) ∈ nh_tb := nh_in (i := 1058) (by decide +kernel) rfl
theorem kc_X9_119 : Cond.constantLong RX9 119 (97) ∈ nh_tb := nh_in (i := 1079) (by decide +kernel) rfl
theorem kc_X9_121 : Cond.constantLong RX9 121 (122) ∈ nh_tb := nh_in (i := 1080) (by decide +kernel) rfl
theorem kc_X9_126 : Cond.constantLong RX9 126 (48) ∈ nh_tb := nh_in (i := 1097) (by decide +kernel) rfl
theorem kc_X9_128 : Cond.constantLong RX9 128 (57) ∈ nh_tb := nh_in (i := 1098) (by decide +kernel) rfl
theorem kc_X9_134 : Cond.constant RX9 134 (99999) ∈ nh_tb := nh_in (i := 1099) (by decide +kernel) rfl
theorem kc_X9_185 : Cond.constant RX9 185 (-1000003) ∈ nh_tb := nh_in (i := 1126) (by decide +kernel) rfl
theorem kc_X9_197 : Cond.constant RX9 197 (-1000001) ∈ nh_tb := nh_in (i := 1146) (by decide +kernel) rfl
theorem kc_X9_198 : Cond.constantLong RX9 198 (5) ∈ nh_tb := nh_in (i := 1147) (by decide +kernel) rfl
theorem kc_X9_246 : Cond.constantLong RX9 246 (1000000000) ∈ nh_tb := nh_in (i := 1236) (by decide +kernel) rfl
theorem kc_X9_248 : Cond.constantLong RX9 248 (100) ∈ nh_tb := nh_in (i := 1237) (by decide +kernel) rfl
theorem kc_X9_250 : Cond.constantLong RX9 250 (3) ∈ nh_tb := nh_in (i := 1231) (by decide +kernel) rfl
theorem kc_X9_259 : Cond.constantLong RX9 259 (1000000) ∈ nh_tb := nh_in (i := 1241) (by decide +kernel) rfl
theorem kc_X9_261 : Cond.constantLong RX9 261 (1103515245) ∈ nh_tb := nh_in (i := 1250) (by decide +kernel) rfl
theorem kc_X9_263 : Cond.constantLong RX9 263 (12345) ∈ nh_tb := nh_in (i := 1251) (by decide +kernel) rfl
theorem kc_X9_265 : Cond.constantLong RX9 265 (2147483648) ∈ nh_tb := nh_in (i := 1252) (by decide +kernel) rfl
theorem kc_X9_267 : Cond.constant RX9 267 (65536) ∈ nh_tb := nh_in (i := 1253) (by decide +kernel) rfl
theorem kc_X9_287 : Cond.constantLong RX9 287 (999) ∈ nh_tb := nh_in (i := 1274) (by decide +kernel) rfl
theorem kc_X9_289 : Cond.constantLong RX9 289 (4) ∈ nh_tb := nh_in (i := 1275) (by decide +kernel) rfl
theorem kc_X9_303 : Cond.constantLong RX9 303 (9999) ∈ nh_tb := nh_in (i := 1308) (by decide +kernel) rfl
theorem kc_X9_308 : Cond.constantLong RX9 308 (99) ∈ nh_tb := nh_in (i := 1329) (by decide +kernel) rfl
theorem kc_J6_265 : Cond.constant RJ6 265 (1431655765) ∈ nh_tb := nh_in (i := 825) (by decide +kernel) rfl
theorem kc_J6_266 : Cond.constant RJ6 266 (858993459) ∈ nh_tb := nh_in (i := 826) (by decide +kernel) rfl
theorem kc_J6_267 : Cond.constant RJ6 267 (252645135) ∈ nh_tb := nh_in (i := 827) (by decide +kernel) rfl
theorem vl_X8_90 : Cond.methodLink RX8 90 yX8_startAnew ∈ nh_tb ∧ Cond.instanceMethod yX8_startAnew ∈ nh_tb ∧ Cond.selects (yX8_startAnew).cls yX8_startAnew yX8_startAnew ∈ nh_tb := ⟨nh_in (i := 351) (by decide +kernel) rfl, nh_in (i := 353) (by decide +kernel) rfl, nh_in (i := 0) (by decide +kernel) rfl⟩
theorem vl_X8_99 : Cond.methodLink RX8 99 yX6_append ∈ nh_tb ∧ Cond.instanceMethod yX6_append ∈ nh_tb ∧ Cond.selects (yX6_append).cls yX6_append yX6_append ∈ nh_tb := ⟨nh_in (i := 420) (by decide +kernel) rfl, nh_in (i := 421) (by decide +kernel) rfl, nh_in (i := 422) (by decide +kernel) rfl⟩
theorem vl_X8_103 : Cond.methodLink RX8 103 yX6_begin ∈ nh_tb ∧ Cond.instanceMethod yX6_begin ∈ nh_tb ∧ Cond.selects (yX6_begin).cls yX6_begin yX6_begin ∈ nh_tb := ⟨nh_in (i := 429) (by decide +kernel) rfl, nh_in (i := 430) (by decide +kernel) rfl, nh_in (i := 431) (by decide +kernel) rfl⟩
theorem vl_X8_106 : Cond.methodLink RX8 106 yX3_learn ∈ nh_tb ∧ Cond.instanceMethod yX3_learn ∈ nh_tb ∧ Cond.selects (yX3_learn).cls yX3_learn yX3_learn ∈ nh_tb := ⟨nh_in (i := 433) (by decide +kernel) rfl, nh_in (i := 434) (by decide +kernel) rfl, nh_in (i := 435) (by decide +kernel) rfl⟩
theorem vl_X8_110 : Cond.methodLink RX8 110 yX6_isSound ∈ nh_tb ∧ Cond.instanceMethod yX6_isSound ∈ nh_tb ∧ Cond.selects (yX6_isSound).cls yX6_isSound yX6_isSound ∈ nh_tb := ⟨nh_in (i := 566) (by decide +kernel) rfl, nh_in (i := 451) (by decide +kernel) rfl, nh_in (i := 452) (by decide +kernel) rfl⟩
theorem vl_X8_121 : Cond.methodLink RX8 121 yX4_learn ∈ nh_tb ∧ Cond.instanceMethod yX4_learn ∈ nh_tb ∧ Cond.selects (yX4_learn).cls yX4_learn yX4_learn ∈ nh_tb := ⟨nh_in (i := 573) (by decide +kernel) rfl, nh_in (i := 574) (by decide +kernel) rfl, nh_in (i := 575) (by decide +kernel) rfl⟩
theorem vl_X8_139 : Cond.methodLink RX8 139 yX8_countLogged ∈ nh_tb ∧ Cond.instanceMethod yX8_countLogged ∈ nh_tb ∧ Cond.selects (yX8_countLogged).cls yX8_countLogged yX8_countLogged ∈ nh_tb := ⟨nh_in (i := 601) (by decide +kernel) rfl, nh_in (i := 603) (by decide +kernel) rfl, nh_in (i := 10) (by decide +kernel) rfl⟩
theorem vl_X8_143 : Cond.methodLink RX8 143 yX8_noHouse ∈ nh_tb ∧ Cond.instanceMethod yX8_noHouse ∈ nh_tb ∧ Cond.selects (yX8_noHouse).cls yX8_noHouse yX8_noHouse ∈ nh_tb := ⟨nh_in (i := 609) (by decide +kernel) rfl, nh_in (i := 611) (by decide +kernel) rfl, nh_in (i := 11) (by decide +kernel) rfl⟩
theorem vl_X8_158 : Cond.methodLink RX8 158 yX2_partsAt ∈ nh_tb ∧ Cond.instanceMethod yX2_partsAt ∈ nh_tb ∧ Cond.selects (yX2_partsAt).cls yX2_partsAt yX2_partsAt ∈ nh_tb := ⟨nh_in (i := 614) (by decide +kernel) rfl, nh_in (i := 615) (by decide +kernel) rfl, nh_in (i := 616) (by decide +kernel) rfl⟩
theorem vl_X8_165 : Cond.methodLink RX8 165 yX8_noPart ∈ nh_tb ∧ Cond.instanceMethod yX8_noPart ∈ nh_tb ∧ Cond.selects (yX8_noPart).cls yX8_noPart yX8_noPart ∈ nh_tb := ⟨nh_in (i := 626) (by decide +kernel) rfl, nh_in (i := 628) (by decide +kernel) rfl, nh_in (i := 12) (by decide +kernel) rfl⟩
theorem sl_X8_183 : Cond.methodLink RX8 183 yX8_beyond ∈ nh_tb ∧ Cond.static yX8_beyond ∈ nh_tb := ⟨nh_in (i := 634) (by decide +kernel) rfl, nh_in (i := 635) (by decide +kernel) rfl⟩
theorem vl_X8_187 : Cond.methodLink RX8 187 yX8_wakeAll ∈ nh_tb ∧ Cond.instanceMethod yX8_wakeAll ∈ nh_tb ∧ Cond.selects (yX8_wakeAll).cls yX8_wakeAll yX8_wakeAll ∈ nh_tb := ⟨nh_in (i := 644) (by decide +kernel) rfl, nh_in (i := 646) (by decide +kernel) rfl, nh_in (i := 13) (by decide +kernel) rfl⟩
theorem vl_X8_194 : Cond.methodLink RX8 194 yX7_arrival ∈ nh_tb ∧ Cond.instanceMethod yX7_arrival ∈ nh_tb ∧ Cond.selects (yX7_arrival).cls yX7_arrival yX7_arrival ∈ nh_tb := ⟨nh_in (i := 666) (by decide +kernel) rfl, nh_in (i := 667) (by decide +kernel) rfl, nh_in (i := 668) (by decide +kernel) rfl⟩
theorem vl_X8_198 : Cond.methodLink RX8 198 yX8_raiseAll ∈ nh_tb ∧ Cond.instanceMethod yX8_raiseAll ∈ nh_tb ∧ Cond.selects (yX8_raiseAll).cls yX8_raiseAll yX8_raiseAll ∈ nh_tb := ⟨nh_in (i := 674) (by decide +kernel) rfl, nh_in (i := 676) (by decide +kernel) rfl, nh_in (i := 16) (by decide +kernel) rfl⟩
theorem sl_X8_208 : Cond.methodLink RX8 208 yX8_fullSet ∈ nh_tb ∧ Cond.static yX8_fullSet ∈ nh_tb := ⟨nh_in (i := 637) (by decide +kernel) rfl, nh_in (i := 638) (by decide +kernel) rfl⟩
theorem sl_X8_212 : Cond.methodLink RX8 212 yX8_has ∈ nh_tb ∧ Cond.static yX8_has ∈ nh_tb := ⟨nh_in (i := 720) (by decide +kernel) rfl, nh_in (i := 555) (by decide +kernel) rfl⟩
theorem vl_X8_215 : Cond.methodLink RX8 215 yX3_shareOf ∈ nh_tb ∧ Cond.instanceMethod yX3_shareOf ∈ nh_tb ∧ Cond.selects (yX3_shareOf).cls yX3_shareOf yX3_shareOf ∈ nh_tb := ⟨nh_in (i := 721) (by decide +kernel) rfl, nh_in (i := 722) (by decide +kernel) rfl, nh_in (i := 723) (by decide +kernel) rfl⟩
theorem vl_X8_219 : Cond.methodLink RX8 219 yX7_run ∈ nh_tb ∧ Cond.instanceMethod yX7_run ∈ nh_tb ∧ Cond.selects (yX7_run).cls yX7_run yX7_run ∈ nh_tb := ⟨nh_in (i := 648) (by decide +kernel) rfl, nh_in (i := 649) (by decide +kernel) rfl, nh_in (i := 650) (by decide +kernel) rfl⟩
theorem vl_X8_223 : Cond.methodLink RX8 223 yX5_gather ∈ nh_tb ∧ Cond.instanceMethod yX5_gather ∈ nh_tb ∧ Cond.selects (yX5_gather).cls yX5_gather yX5_gather ∈ nh_tb := ⟨nh_in (i := 678) (by decide +kernel) rfl, nh_in (i := 679) (by decide +kernel) rfl, nh_in (i := 680) (by decide +kernel) rfl⟩
theorem vl_X8_227 : Cond.methodLink RX8 227 yX3_allParts ∈ nh_tb ∧ Cond.instanceMethod yX3_allParts ∈ nh_tb ∧ Cond.selects (yX3_allParts).cls yX3_allParts yX3_allParts ∈ nh_tb := ⟨nh_in (i := 683) (by decide +kernel) rfl, nh_in (i := 684) (by decide +kernel) rfl, nh_in (i := 685) (by decide +kernel) rfl⟩
theorem vl_X8_230 : Cond.methodLink RX8 230 yX5_run ∈ nh_tb ∧ Cond.instanceMethod yX5_run ∈ nh_tb ∧ Cond.selects (yX5_run).cls yX5_run yX5_run ∈ nh_tb := ⟨nh_in (i := 688) (by decide +kernel) rfl, nh_in (i := 689) (by decide +kernel) rfl, nh_in (i := 690) (by decide +kernel) rfl⟩
theorem sl_X8_233 : Cond.methodLink RX8 233 yX8_counted ∈ nh_tb ∧ Cond.static yX8_counted ∈ nh_tb := ⟨nh_in (i := 727) (by decide +kernel) rfl, nh_in (i := 728) (by decide +kernel) rfl⟩
theorem vl_X8_243 : Cond.methodLink RX8 243 yX2_draw ∈ nh_tb ∧ Cond.instanceMethod yX2_draw ∈ nh_tb ∧ Cond.selects (yX2_draw).cls yX2_draw yX2_draw ∈ nh_tb := ⟨nh_in (i := 736) (by decide +kernel) rfl, nh_in (i := 737) (by decide +kernel) rfl, nh_in (i := 738) (by decide +kernel) rfl⟩
theorem vl_X8_246 : Cond.methodLink RX8 246 yX0_sendOut ∈ nh_tb ∧ Cond.instanceMethod yX0_sendOut ∈ nh_tb ∧ Cond.selects (yX0_sendOut).cls yX0_sendOut yX0_sendOut ∈ nh_tb := ⟨nh_in (i := 749) (by decide +kernel) rfl, nh_in (i := 750) (by decide +kernel) rfl, nh_in (i := 751) (by decide +kernel) rfl⟩
theorem vl_X8_250 : Cond.methodLink RX8 250 yX0_search ∈ nh_tb ∧ Cond.instanceMethod yX0_search ∈ nh_tb ∧ Cond.selects (yX0_search).cls yX0_search yX0_search ∈ nh_tb := ⟨nh_in (i := 754) (by decide +kernel) rfl, nh_in (i := 755) (by decide +kernel) rfl, nh_in (i := 756) (by decide +kernel) rfl⟩
theorem vl_X8_261 : Cond.methodLink RX8 261 yX1_find ∈ nh_tb ∧ Cond.instanceMethod yX1_find ∈ nh_tb ∧ Cond.selects (yX1_find).cls yX1_find yX1_find ∈ nh_tb := ⟨nh_in (i := 781) (by decide +kernel) rfl, nh_in (i := 782) (by decide +kernel) rfl, nh_in (i := 783) (by decide +kernel) rfl⟩
theorem vl_X8_271 : Cond.methodLink RX8 271 yX3_canBeIn ∈ nh_tb ∧ Cond.instanceMethod yX3_canBeIn ∈ nh_tb ∧ Cond.selects (yX3_canBeIn).cls yX3_canBeIn yX3_canBeIn ∈ nh_tb := ⟨nh_in (i := 810) (by decide +kernel) rfl, nh_in (i := 811) (by decide +kernel) rfl, nh_in (i := 812) (by decide +kernel) rfl⟩
theorem vl_X8_274 : Cond.methodLink RX8 274 yX3_gainOf ∈ nh_tb ∧ Cond.instanceMethod yX3_gainOf ∈ nh_tb ∧ Cond.selects (yX3_gainOf).cls yX3_gainOf yX3_gainOf ∈ nh_tb := ⟨nh_in (i := 814) (by decide +kernel) rfl, nh_in (i := 815) (by decide +kernel) rfl, nh_in (i := 816) (by decide +kernel) rfl⟩
theorem sl_X8_277 : Cond.methodLink RX8 277 yJ6_bitCount_0f7a4 ∈ nh_tb ∧ Cond.static yJ6_bitCount_0f7a4 ∈ nh_tb := ⟨nh_in (i := 822) (by decide +kernel) rfl, nh_in (i := 823) (by decide +kernel) rfl⟩
theorem vl_X8_282 : Cond.methodLink RX8 282 yX8_countWays ∈ nh_tb ∧ Cond.instanceMethod yX8_countWays ∈ nh_tb ∧ Cond.selects (yX8_countWays).cls yX8_countWays yX8_countWays ∈ nh_tb := ⟨nh_in (i := 836) (by decide +kernel) rfl, nh_in (i := 838) (by decide +kernel) rfl, nh_in (i := 25) (by decide +kernel) rfl⟩
theorem vl_X8_285 : Cond.methodLink RX8 285 yX5_laterThan ∈ nh_tb ∧ Cond.instanceMethod yX5_laterThan ∈ nh_tb ∧ Cond.selects (yX5_laterThan).cls yX5_laterThan yX5_laterThan ∈ nh_tb := ⟨nh_in (i := 856) (by decide +kernel) rfl, nh_in (i := 857) (by decide +kernel) rfl, nh_in (i := 858) (by decide +kernel) rfl⟩
theorem vl_X8_288 : Cond.methodLink RX8 288 yX8_standsWith ∈ nh_tb ∧ Cond.instanceMethod yX8_standsWith ∈ nh_tb ∧ Cond.selects (yX8_standsWith).cls yX8_standsWith yX8_standsWith ∈ nh_tb := ⟨nh_in (i := 860) (by decide +kernel) rfl, nh_in (i := 862) (by decide +kernel) rfl, nh_in (i := 26) (by decide +kernel) rfl⟩
theorem vl_X8_291 : Cond.methodLink RX8 291 yX8_costOf ∈ nh_tb ∧ Cond.instanceMethod yX8_costOf ∈ nh_tb ∧ Cond.selects (yX8_costOf).cls yX8_costOf yX8_costOf ∈ nh_tb := ⟨nh_in (i := 864) (by decide +kernel) rfl, nh_in (i := 866) (by decide +kernel) rfl, nh_in (i := 27) (by decide +kernel) rfl⟩
theorem vl_X8_294 : Cond.methodLink RX8 294 yX5_countNever ∈ nh_tb ∧ Cond.instanceMethod yX5_countNever ∈ nh_tb ∧ Cond.selects (yX5_countNever).cls yX5_countNever yX5_countNever ∈ nh_tb := ⟨nh_in (i := 872) (by decide +kernel) rfl, nh_in (i := 873) (by decide +kernel) rfl, nh_in (i := 874) (by decide +kernel) rfl⟩
theorem sl_X8_300 : Cond.methodLink RX8 300 yJ7_fill_53178 ∈ nh_tb ∧ Cond.static yJ7_fill_53178 ∈ nh_tb := ⟨nh_in (i := 359) (by decide +kernel) rfl, nh_in (i := 360) (by decide +kernel) rfl⟩
theorem vl_X8_306 : Cond.methodLink RX8 306 yX8_lateBy ∈ nh_tb ∧ Cond.instanceMethod yX8_lateBy ∈ nh_tb ∧ Cond.selects (yX8_lateBy).cls yX8_lateBy yX8_lateBy ∈ nh_tb := ⟨nh_in (i := 890) (by decide +kernel) rfl, nh_in (i := 892) (by decide +kernel) rfl, nh_in (i := 28) (by decide +kernel) rfl⟩
theorem vl_X8_309 : Cond.methodLink RX8 309 yX8_findLatest ∈ nh_tb ∧ Cond.instanceMethod yX8_findLatest ∈ nh_tb ∧ Cond.selects (yX8_findLatest).cls yX8_findLatest yX8_findLatest ∈ nh_tb := ⟨nh_in (i := 898) (by decide +kernel) rfl, nh_in (i := 900) (by decide +kernel) rfl, nh_in (i := 29) (by decide +kernel) rfl⟩
theorem vl_X8_312 : Cond.methodLink RX8 312 yX8_standsByLog ∈ nh_tb ∧ Cond.instanceMethod yX8_standsByLog ∈ nh_tb ∧ Cond.selects (yX8_standsByLog).cls yX8_standsByLog yX8_standsByLog ∈ nh_tb := ⟨nh_in (i := 902) (by decide +kernel) rfl, nh_in (i := 904) (by decide +kernel) rfl, nh_in (i := 30) (by decide +kernel) rfl⟩
theorem vl_X8_318 : Cond.methodLink RX8 318 yX2_becomes ∈ nh_tb ∧ Cond.instanceMethod yX2_becomes ∈ nh_tb ∧ Cond.selects (yX2_becomes).cls yX2_becomes yX2_becomes ∈ nh_tb := ⟨nh_in (i := 914) (by decide +kernel) rfl, nh_in (i := 915) (by decide +kernel) rfl, nh_in (i := 916) (by decide +kernel) rfl⟩
theorem vl_X8_326 : Cond.methodLink RX8 326 yX2_begin ∈ nh_tb ∧ Cond.instanceMethod yX2_begin ∈ nh_tb ∧ Cond.selects (yX2_begin).cls yX2_begin yX2_begin ∈ nh_tb := ⟨nh_in (i := 355) (by decide +kernel) rfl, nh_in (i := 356) (by decide +kernel) rfl, nh_in (i := 357) (by decide +kernel) rfl⟩
theorem vl_X0_37 : Cond.methodLink RX0 37 yX2_partsAt ∈ nh_tb ∧ Cond.instanceMethod yX2_partsAt ∈ nh_tb ∧ Cond.selects (yX2_partsAt).cls yX2_partsAt yX2_partsAt ∈ nh_tb := ⟨nh_in (i := 753) (by decide +kernel) rfl, nh_in (i := 615) (by decide +kernel) rfl, nh_in (i := 616) (by decide +kernel) rfl⟩
theorem vl_X0_55 : Cond.methodLink RX0 55 yX7_run ∈ nh_tb ∧ Cond.instanceMethod yX7_run ∈ nh_tb ∧ Cond.selects (yX7_run).cls yX7_run yX7_run ∈ nh_tb := ⟨nh_in (i := 758) (by decide +kernel) rfl, nh_in (i := 649) (by decide +kernel) rfl, nh_in (i := 650) (by decide +kernel) rfl⟩
theorem vl_X0_64 : Cond.methodLink RX0 64 yX5_gather ∈ nh_tb ∧ Cond.instanceMethod yX5_gather ∈ nh_tb ∧ Cond.selects (yX5_gather).cls yX5_gather yX5_gather ∈ nh_tb := ⟨nh_in (i := 759) (by decide +kernel) rfl, nh_in (i := 679) (by decide +kernel) rfl, nh_in (i := 680) (by decide +kernel) rfl⟩
theorem vl_X0_70 : Cond.methodLink RX0 70 yX3_allParts ∈ nh_tb ∧ Cond.instanceMethod yX3_allParts ∈ nh_tb ∧ Cond.selects (yX3_allParts).cls yX3_allParts yX3_allParts ∈ nh_tb := ⟨nh_in (i := 760) (by decide +kernel) rfl, nh_in (i := 684) (by decide +kernel) rfl, nh_in (i := 685) (by decide +kernel) rfl⟩
theorem vl_X0_74 : Cond.methodLink RX0 74 yX5_run ∈ nh_tb ∧ Cond.instanceMethod yX5_run ∈ nh_tb ∧ Cond.selects (yX5_run).cls yX5_run yX5_run ∈ nh_tb := ⟨nh_in (i := 761) (by decide +kernel) rfl, nh_in (i := 689) (by decide +kernel) rfl, nh_in (i := 690) (by decide +kernel) rfl⟩
theorem nl_X0_77 : (RX0, 77, yX8_counted, "NineHouses") ∈ nh_nst ∧ Cond.static yX8_counted ∈ nh_tb := ⟨by decide +kernel, nh_in (i := 728) (by decide +kernel) rfl⟩
theorem vl_X0_87 : Cond.methodLink RX0 87 yX0_turnToNext ∈ nh_tb ∧ Cond.instanceMethod yX0_turnToNext ∈ nh_tb ∧ Cond.selects (yX0_turnToNext).cls yX0_turnToNext yX0_turnToNext ∈ nh_tb := ⟨nh_in (i := 766) (by decide +kernel) rfl, nh_in (i := 768) (by decide +kernel) rfl, nh_in (i := 20) (by decide +kernel) rfl⟩
theorem nl_X0_91 : (RX0, 91, yX8_swap, "NineHouses") ∈ nh_nst ∧ Cond.static yX8_swap ∈ nh_tb := ⟨by decide +kernel, nh_in (i := 771) (by decide +kernel) rfl⟩
theorem vl_X1_51 : Cond.methodLink RX1 51 yX7_arrival ∈ nh_tb ∧ Cond.instanceMethod yX7_arrival ∈ nh_tb ∧ Cond.selects (yX7_arrival).cls yX7_arrival yX7_arrival ∈ nh_tb := ⟨nh_in (i := 786) (by decide +kernel) rfl, nh_in (i := 667) (by decide +kernel) rfl, nh_in (i := 668) (by decide +kernel) rfl⟩
theorem vl_X1_57 : Cond.methodLink RX1 57 yX1_isInTime ∈ nh_tb ∧ Cond.instanceMethod yX1_isInTime ∈ nh_tb ∧ Cond.selects (yX1_isInTime).cls yX1_isInTime yX1_isInTime ∈ nh_tb := ⟨nh_in (i := 787) (by decide +kernel) rfl, nh_in (i := 789) (by decide +kernel) rfl, nh_in (i := 21) (by decide +kernel) rfl⟩
theorem vl_X1_64 : Cond.methodLink RX1 64 yX1_moveOne ∈ nh_tb ∧ Cond.instanceMethod yX1_moveOne ∈ nh_tb ∧ Cond.selects (yX1_moveOne).cls yX1_moveOne yX1_moveOne ∈ nh_tb := ⟨nh_in (i := 794) (by decide +kernel) rfl, nh_in (i := 796) (by decide +kernel) rfl, nh_in (i := 22) (by decide +kernel) rfl⟩
theorem vl_X1_68 : Cond.methodLink RX1 68 yX1_moveTwo ∈ nh_tb ∧ Cond.instanceMethod yX1_moveTwo ∈ nh_tb ∧ Cond.selects (yX1_moveTwo).cls yX1_moveTwo yX1_moveTwo ∈ nh_tb := ⟨nh_in (i := 802) (by decide +kernel) rfl, nh_in (i := 804) (by decide +kernel) rfl, nh_in (i := 24) (by decide +kernel) rfl⟩
theorem vl_X1_74 : Cond.methodLink RX1 74 yX1_hold ∈ nh_tb ∧ Cond.instanceMethod yX1_hold ∈ nh_tb ∧ Cond.selects (yX1_hold).cls yX1_hold yX1_hold ∈ nh_tb := ⟨nh_in (i := 798) (by decide +kernel) rfl, nh_in (i := 800) (by decide +kernel) rfl, nh_in (i := 23) (by decide +kernel) rfl⟩
theorem vl_X1_81 : Cond.methodLink RX1 81 yX3_allParts ∈ nh_tb ∧ Cond.instanceMethod yX3_allParts ∈ nh_tb ∧ Cond.selects (yX3_allParts).cls yX3_allParts yX3_allParts ∈ nh_tb := ⟨nh_in (i := 791) (by decide +kernel) rfl, nh_in (i := 684) (by decide +kernel) rfl, nh_in (i := 685) (by decide +kernel) rfl⟩
theorem vl_X1_85 : Cond.methodLink RX1 85 yX5_run ∈ nh_tb ∧ Cond.instanceMethod yX5_run ∈ nh_tb ∧ Cond.selects (yX5_run).cls yX5_run yX5_run ∈ nh_tb := ⟨nh_in (i := 792) (by decide +kernel) rfl, nh_in (i := 689) (by decide +kernel) rfl, nh_in (i := 690) (by decide +kernel) rfl⟩
theorem nl_X1_89 : (RX1, 89, yX8_swap, "NineHouses") ∈ nh_nst ∧ Cond.static yX8_swap ∈ nh_tb := ⟨by decide +kernel, nh_in (i := 771) (by decide +kernel) rfl⟩
theorem vl_X3_38 : Cond.methodLink RX3 38 yX3_forget ∈ nh_tb ∧ Cond.instanceMethod yX3_forget ∈ nh_tb ∧ Cond.selects (yX3_forget).cls yX3_forget yX3_forget ∈ nh_tb := ⟨nh_in (i := 437) (by decide +kernel) rfl, nh_in (i := 439) (by decide +kernel) rfl, nh_in (i := 1) (by decide +kernel) rfl⟩
theorem vl_X3_41 : Cond.methodLink RX3 41 yX6_goesOn ∈ nh_tb ∧ Cond.instanceMethod yX6_goesOn ∈ nh_tb ∧ Cond.selects (yX6_goesOn).cls yX6_goesOn yX6_goesOn ∈ nh_tb := ⟨nh_in (i := 442) (by decide +kernel) rfl, nh_in (i := 443) (by decide +kernel) rfl, nh_in (i := 444) (by decide +kernel) rfl⟩
theorem vl_X3_49 : Cond.methodLink RX3 49 yX6_takesWord ∈ nh_tb ∧ Cond.instanceMethod yX6_takesWord ∈ nh_tb ∧ Cond.selects (yX6_takesWord).cls yX6_takesWord yX6_takesWord ∈ nh_tb := ⟨nh_in (i := 455) (by decide +kernel) rfl, nh_in (i := 456) (by decide +kernel) rfl, nh_in (i := 457) (by decide +kernel) rfl⟩
theorem vl_X3_53 : Cond.methodLink RX3 53 yX3_learnHouse ∈ nh_tb ∧ Cond.instanceMethod yX3_learnHouse ∈ nh_tb ∧ Cond.selects (yX3_learnHouse).cls yX3_learnHouse yX3_learnHouse ∈ nh_tb := ⟨nh_in (i := 510) (by decide +kernel) rfl, nh_in (i := 512) (by decide +kernel) rfl, nh_in (i := 3) (by decide +kernel) rfl⟩
theorem vl_X3_59 : Cond.methodLink RX3 59 yX3_learnWay ∈ nh_tb ∧ Cond.instanceMethod yX3_learnWay ∈ nh_tb ∧ Cond.selects (yX3_learnWay).cls yX3_learnWay yX3_learnWay ∈ nh_tb := ⟨nh_in (i := 539) (by decide +kernel) rfl, nh_in (i := 541) (by decide +kernel) rfl, nh_in (i := 4) (by decide +kernel) rfl⟩
theorem vl_X3_64 : Cond.methodLink RX3 64 yX3_learnPart ∈ nh_tb ∧ Cond.instanceMethod yX3_learnPart ∈ nh_tb ∧ Cond.selects (yX3_learnPart).cls yX3_learnPart yX3_learnPart ∈ nh_tb := ⟨nh_in (i := 545) (by decide +kernel) rfl, nh_in (i := 547) (by decide +kernel) rfl, nh_in (i := 5) (by decide +kernel) rfl⟩
theorem vl_X3_67 : Cond.methodLink RX3 67 yX6_blameHere ∈ nh_tb ∧ Cond.instanceMethod yX6_blameHere ∈ nh_tb ∧ Cond.selects (yX6_blameHere).cls yX6_blameHere yX6_blameHere ∈ nh_tb := ⟨nh_in (i := 558) (by decide +kernel) rfl, nh_in (i := 535) (by decide +kernel) rfl, nh_in (i := 536) (by decide +kernel) rfl⟩
theorem vl_X3_70 : Cond.methodLink RX3 70 yX3_shortenWays ∈ nh_tb ∧ Cond.instanceMethod yX3_shortenWays ∈ nh_tb ∧ Cond.selects (yX3_shortenWays).cls yX3_shortenWays yX3_shortenWays ∈ nh_tb := ⟨nh_in (i := 559) (by decide +kernel) rfl, nh_in (i := 561) (by decide +kernel) rfl, nh_in (i := 7) (by decide +kernel) rfl⟩
theorem nl_X3_77 : (RX3, 77, yX8_fullSet, "NineHouses") ∈ nh_nst ∧ Cond.static yX8_fullSet ∈ nh_tb := ⟨by decide +kernel, nh_in (i := 638) (by decide +kernel) rfl⟩
theorem nl_X3_81 : (RX3, 81, yX8_has, "NineHouses") ∈ nh_nst ∧ Cond.static yX8_has ∈ nh_tb := ⟨by decide +kernel, nh_in (i := 555) (by decide +kernel) rfl⟩
theorem sl_X3_92 : Cond.methodLink RX3 92 yJ7_fill_53178 ∈ nh_tb ∧ Cond.static yJ7_fill_53178 ∈ nh_tb := ⟨nh_in (i := 441) (by decide +kernel) rfl, nh_in (i := 360) (by decide +kernel) rfl⟩
theorem vl_X3_101 : Cond.methodLink RX3 101 yX6_blame ∈ nh_tb ∧ Cond.instanceMethod yX6_blame ∈ nh_tb ∧ Cond.selects (yX6_blame).cls yX6_blame yX6_blame ∈ nh_tb := ⟨nh_in (i := 514) (by decide +kernel) rfl, nh_in (i := 515) (by decide +kernel) rfl, nh_in (i := 516) (by decide +kernel) rfl⟩
theorem vl_X3_105 : Cond.methodLink RX3 105 yX6_takeNumber ∈ nh_tb ∧ Cond.instanceMethod yX6_takeNumber ∈ nh_tb ∧ Cond.selects (yX6_takeNumber).cls yX6_takeNumber yX6_takeNumber ∈ nh_tb := ⟨nh_in (i := 518) (by decide +kernel) rfl, nh_in (i := 519) (by decide +kernel) rfl, nh_in (i := 520) (by decide +kernel) rfl⟩
theorem vl_X3_109 : Cond.methodLink RX3 109 yX6_endClause ∈ nh_tb ∧ Cond.instanceMethod yX6_endClause ∈ nh_tb ∧ Cond.selects (yX6_endClause).cls yX6_endClause yX6_endClause ∈ nh_tb := ⟨nh_in (i := 526) (by decide +kernel) rfl, nh_in (i := 527) (by decide +kernel) rfl, nh_in (i := 528) (by decide +kernel) rfl⟩
theorem vl_X3_112 : Cond.methodLink RX3 112 yX6_isSound ∈ nh_tb ∧ Cond.instanceMethod yX6_isSound ∈ nh_tb ∧ Cond.selects (yX6_isSound).cls yX6_isSound yX6_isSound ∈ nh_tb := ⟨nh_in (i := 543) (by decide +kernel) rfl, nh_in (i := 451) (by decide +kernel) rfl, nh_in (i := 452) (by decide +kernel) rfl⟩
theorem vl_X3_117 : Cond.methodLink RX3 117 yX3_learnBehind ∈ nh_tb ∧ Cond.instanceMethod yX3_learnBehind ∈ nh_tb ∧ Cond.selects (yX3_learnBehind).cls yX3_learnBehind yX3_learnBehind ∈ nh_tb := ⟨nh_in (i := 550) (by decide +kernel) rfl, nh_in (i := 552) (by decide +kernel) rfl, nh_in (i := 6) (by decide +kernel) rfl⟩
theorem vl_X3_121 : Cond.methodLink RX3 121 yX6_takesSign ∈ nh_tb ∧ Cond.instanceMethod yX6_takesSign ∈ nh_tb ∧ Cond.selects (yX6_takesSign).cls yX6_takesSign yX6_takesSign ∈ nh_tb := ⟨nh_in (i := 557) (by decide +kernel) rfl, nh_in (i := 531) (by decide +kernel) rfl, nh_in (i := 532) (by decide +kernel) rfl⟩
theorem vl_X4_22 : Cond.methodLink RX4 22 yX6_goesOn ∈ nh_tb ∧ Cond.instanceMethod yX6_goesOn ∈ nh_tb ∧ Cond.selects (yX6_goesOn).cls yX6_goesOn yX6_goesOn ∈ nh_tb := ⟨nh_in (i := 577) (by decide +kernel) rfl, nh_in (i := 443) (by decide +kernel) rfl, nh_in (i := 444) (by decide +kernel) rfl⟩
theorem vl_X4_30 : Cond.methodLink RX4 30 yX6_takesWord ∈ nh_tb ∧ Cond.instanceMethod yX6_takesWord ∈ nh_tb ∧ Cond.selects (yX6_takesWord).cls yX6_takesWord yX6_takesWord ∈ nh_tb := ⟨nh_in (i := 579) (by decide +kernel) rfl, nh_in (i := 456) (by decide +kernel) rfl, nh_in (i := 457) (by decide +kernel) rfl⟩
theorem vl_X4_34 : Cond.methodLink RX4 34 yX4_learnWake ∈ nh_tb ∧ Cond.instanceMethod yX4_learnWake ∈ nh_tb ∧ Cond.selects (yX4_learnWake).cls yX4_learnWake yX4_learnWake ∈ nh_tb := ⟨nh_in (i := 580) (by decide +kernel) rfl, nh_in (i := 582) (by decide +kernel) rfl, nh_in (i := 8) (by decide +kernel) rfl⟩
theorem vl_X4_38 : Cond.methodLink RX4 38 yX6_blameHere ∈ nh_tb ∧ Cond.instanceMethod yX6_blameHere ∈ nh_tb ∧ Cond.selects (yX6_blameHere).cls yX6_blameHere yX6_blameHere ∈ nh_tb := ⟨nh_in (i := 592) (by decide +kernel) rfl, nh_in (i := 535) (by decide +kernel) rfl, nh_in (i := 536) (by decide +kernel) rfl⟩
theorem vl_X4_44 : Cond.methodLink RX4 44 yX6_blame ∈ nh_tb ∧ Cond.instanceMethod yX6_blame ∈ nh_tb ∧ Cond.selects (yX6_blame).cls yX6_blame yX6_blame ∈ nh_tb := ⟨nh_in (i := 584) (by decide +kernel) rfl, nh_in (i := 515) (by decide +kernel) rfl, nh_in (i := 516) (by decide +kernel) rfl⟩
theorem vl_X4_48 : Cond.methodLink RX4 48 yX6_takeNumber ∈ nh_tb ∧ Cond.instanceMethod yX6_takeNumber ∈ nh_tb ∧ Cond.selects (yX6_takeNumber).cls yX6_takeNumber yX6_takeNumber ∈ nh_tb := ⟨nh_in (i := 585) (by decide +kernel) rfl, nh_in (i := 519) (by decide +kernel) rfl, nh_in (i := 520) (by decide +kernel) rfl⟩
theorem vl_X4_52 : Cond.methodLink RX4 52 yX6_isSound ∈ nh_tb ∧ Cond.instanceMethod yX6_isSound ∈ nh_tb ∧ Cond.selects (yX6_isSound).cls yX6_isSound yX6_isSound ∈ nh_tb := ⟨nh_in (i := 586) (by decide +kernel) rfl, nh_in (i := 451) (by decide +kernel) rfl, nh_in (i := 452) (by decide +kernel) rfl⟩
theorem vl_X4_55 : Cond.methodLink RX4 55 yX4_isWoken ∈ nh_tb ∧ Cond.instanceMethod yX4_isWoken ∈ nh_tb ∧ Cond.selects (yX4_isWoken).cls yX4_isWoken yX4_isWoken ∈ nh_tb := ⟨nh_in (i := 587) (by decide +kernel) rfl, nh_in (i := 589) (by decide +kernel) rfl, nh_in (i := 9) (by decide +kernel) rfl⟩
theorem vl_X4_59 : Cond.methodLink RX4 59 yX6_endClause ∈ nh_tb ∧ Cond.instanceMethod yX6_endClause ∈ nh_tb ∧ Cond.selects (yX6_endClause).cls yX6_endClause yX6_endClause ∈ nh_tb := ⟨nh_in (i := 591) (by decide +kernel) rfl, nh_in (i := 527) (by decide +kernel) rfl, nh_in (i := 528) (by decide +kernel) rfl⟩
theorem vl_X5_30 : Cond.methodLink RX5 30 yX7_arrival ∈ nh_tb ∧ Cond.instanceMethod yX7_arrival ∈ nh_tb ∧ Cond.selects (yX7_arrival).cls yX7_arrival yX7_arrival ∈ nh_tb := ⟨nh_in (i := 682) (by decide +kernel) rfl, nh_in (i := 667) (by decide +kernel) rfl, nh_in (i := 668) (by decide +kernel) rfl⟩
theorem nl_X5_36 : (RX5, 36, yX8_counted, "NineHouses") ∈ nh_nst ∧ Cond.static yX8_counted ∈ nh_tb := ⟨by decide +kernel, nh_in (i := 728) (by decide +kernel) rfl⟩
theorem nl_X5_43 : (RX5, 43, yX8_has, "NineHouses") ∈ nh_nst ∧ Cond.static yX8_has ∈ nh_tb := ⟨by decide +kernel, nh_in (i := 555) (by decide +kernel) rfl⟩
theorem vl_X5_47 : Cond.methodLink RX5 47 yX5_makeReady ∈ nh_tb ∧ Cond.instanceMethod yX5_makeReady ∈ nh_tb ∧ Cond.selects (yX5_makeReady).cls yX5_makeReady yX5_makeReady ∈ nh_tb := ⟨nh_in (i := 693) (by decide +kernel) rfl, nh_in (i := 695) (by decide +kernel) rfl, nh_in (i := 17) (by decide +kernel) rfl⟩
theorem vl_X5_51 : Cond.methodLink RX5 51 yX5_queueUp ∈ nh_tb ∧ Cond.instanceMethod yX5_queueUp ∈ nh_tb ∧ Cond.selects (yX5_queueUp).cls yX5_queueUp yX5_queueUp ∈ nh_tb := ⟨nh_in (i := 700) (by decide +kernel) rfl, nh_in (i := 702) (by decide +kernel) rfl, nh_in (i := 18) (by decide +kernel) rfl⟩
theorem vl_X5_55 : Cond.methodLink RX5 55 yX5_putAll ∈ nh_tb ∧ Cond.instanceMethod yX5_putAll ∈ nh_tb ∧ Cond.selects (yX5_putAll).cls yX5_putAll yX5_putAll ∈ nh_tb := ⟨nh_in (i := 704) (by decide +kernel) rfl, nh_in (i := 706) (by decide +kernel) rfl, nh_in (i := 19) (by decide +kernel) rfl⟩
theorem vl_X6_33 : Cond.methodLink RX6 33 yX6_isSound ∈ nh_tb ∧ Cond.instanceMethod yX6_isSound ∈ nh_tb ∧ Cond.selects (yX6_isSound).cls yX6_isSound yX6_isSound ∈ nh_tb := ⟨nh_in (i := 450) (by decide +kernel) rfl, nh_in (i := 451) (by decide +kernel) rfl, nh_in (i := 452) (by decide +kernel) rfl⟩
theorem vl_X6_37 : Cond.methodLink RX6 37 yX6_skipBlanks ∈ nh_tb ∧ Cond.instanceMethod yX6_skipBlanks ∈ nh_tb ∧ Cond.selects (yX6_skipBlanks).cls yX6_skipBlanks yX6_skipBlanks ∈ nh_tb := ⟨nh_in (i := 446) (by decide +kernel) rfl, nh_in (i := 448) (by decide +kernel) rfl, nh_in (i := 2) (by decide +kernel) rfl⟩
theorem vl_X6_40 : Cond.methodLink RX6 40 yX6_blame ∈ nh_tb ∧ Cond.instanceMethod yX6_blame ∈ nh_tb ∧ Cond.selects (yX6_blame).cls yX6_blame yX6_blame ∈ nh_tb := ⟨nh_in (i := 525) (by decide +kernel) rfl, nh_in (i := 515) (by decide +kernel) rfl, nh_in (i := 516) (by decide +kernel) rfl⟩
theorem sl_X6_44 : Cond.methodLink RX6 44 yX6_isLetter ∈ nh_tb ∧ Cond.static yX6_isLetter ∈ nh_tb := ⟨nh_in (i := 459) (by decide +kernel) rfl, nh_in (i := 460) (by decide +kernel) rfl⟩
theorem vl_X6_48 : Cond.methodLink RX6 48 yJ0_length_8abf5 ∈ nh_tb ∧ Cond.instanceMethod yJ0_length_8abf5 ∈ nh_tb ∧ Cond.selects (yJ0_length_8abf5).cls yJ0_length_8abf5 yJ0_length_8abf5 ∈ nh_tb := ⟨nh_in (i := 462) (by decide +kernel) rfl, nh_in (i := 463) (by decide +kernel) rfl, nh_in (i := 464) (by decide +kernel) rfl⟩
theorem vl_X6_53 : Cond.methodLink RX6 53 yJ0_charAt_5068e ∈ nh_tb ∧ Cond.instanceMethod yJ0_charAt_5068e ∈ nh_tb ∧ Cond.selects (yJ0_charAt_5068e).cls yJ0_charAt_5068e yJ0_charAt_5068e ∈ nh_tb := ⟨nh_in (i := 472) (by decide +kernel) rfl, nh_in (i := 473) (by decide +kernel) rfl, nh_in (i := 474) (by decide +kernel) rfl⟩
theorem vl_X6_57 : Cond.methodLink RX6 57 yX6_takesSign ∈ nh_tb ∧ Cond.instanceMethod yX6_takesSign ∈ nh_tb ∧ Cond.selects (yX6_takesSign).cls yX6_takesSign yX6_takesSign ∈ nh_tb := ⟨nh_in (i := 530) (by decide +kernel) rfl, nh_in (i := 531) (by decide +kernel) rfl, nh_in (i := 532) (by decide +kernel) rfl⟩
theorem vl_X6_60 : Cond.methodLink RX6 60 yX6_blameHere ∈ nh_tb ∧ Cond.instanceMethod yX6_blameHere ∈ nh_tb ∧ Cond.selects (yX6_blameHere).cls yX6_blameHere yX6_blameHere ∈ nh_tb := ⟨nh_in (i := 534) (by decide +kernel) rfl, nh_in (i := 535) (by decide +kernel) rfl, nh_in (i := 536) (by decide +kernel) rfl⟩
theorem sl_X6_63 : Cond.methodLink RX6 63 yX6_isFigure ∈ nh_tb ∧ Cond.static yX6_isFigure ∈ nh_tb := ⟨nh_in (i := 522) (by decide +kernel) rfl, nh_in (i := 523) (by decide +kernel) rfl⟩
theorem sl_X7_24 : Cond.methodLink RX7 24 yJ7_fill_53178 ∈ nh_tb ∧ Cond.static yJ7_fill_53178 ∈ nh_tb := ⟨nh_in (i := 652) (by decide +kernel) rfl, nh_in (i := 360) (by decide +kernel) rfl⟩
theorem vl_X7_34 : Cond.methodLink RX7 34 yX7_rouse ∈ nh_tb ∧ Cond.instanceMethod yX7_rouse ∈ nh_tb ∧ Cond.selects (yX7_rouse).cls yX7_rouse yX7_rouse ∈ nh_tb := ⟨nh_in (i := 653) (by decide +kernel) rfl, nh_in (i := 655) (by decide +kernel) rfl, nh_in (i := 14) (by decide +kernel) rfl⟩
theorem vl_X7_38 : Cond.methodLink RX7 38 yX7_goRound ∈ nh_tb ∧ Cond.instanceMethod yX7_goRound ∈ nh_tb ∧ Cond.selects (yX7_goRound).cls yX7_goRound yX7_goRound ∈ nh_tb := ⟨nh_in (i := 657) (by decide +kernel) rfl, nh_in (i := 659) (by decide +kernel) rfl, nh_in (i := 15) (by decide +kernel) rfl⟩
theorem nl_X7_57 : (RX7, 57, yX8_has, "NineHouses") ∈ nh_nst ∧ Cond.static yX8_has ∈ nh_tb := ⟨by decide +kernel, nh_in (i := 555) (by decide +kernel) rfl⟩
theorem vl_L_15 : Cond.methodLink RL 15 yX8_feed ∈ nh_tb ∧ Cond.instanceMethod yX8_feed ∈ nh_tb ∧ Cond.selects (yX8_feed).cls yX8_feed yX8_feed ∈ nh_tb := ⟨nh_in (i := 414) (by decide +kernel) rfl, nh_in (i := 415) (by decide +kernel) rfl, nh_in (i := 416) (by decide +kernel) rfl⟩
theorem vl_L_19 : Cond.methodLink RL 19 yX9_feed ∈ nh_tb ∧ Cond.instanceMethod yX9_feed ∈ nh_tb ∧ Cond.selects (yX9_feed).cls yX9_feed yX9_feed ∈ nh_tb := ⟨nh_in (i := 1048) (by decide +kernel) rfl, nh_in (i := 1049) (by decide +kernel) rfl, nh_in (i := 1050) (by decide +kernel) rfl⟩
theorem vl_L_20 : Cond.methodLink RL 20 yX8_parish ∈ nh_tb ∧ Cond.instanceMethod yX8_parish ∈ nh_tb ∧ Cond.selects (yX8_parish).cls yX8_parish yX8_parish ∈ nh_tb := ⟨nh_in (i := 425) (by decide +kernel) rfl, nh_in (i := 426) (by decide +kernel) rfl, nh_in (i := 427) (by decide +kernel) rfl⟩
theorem vl_L_24 : Cond.methodLink RL 24 yX9_parish ∈ nh_tb ∧ Cond.instanceMethod yX9_parish ∈ nh_tb ∧ Cond.selects (yX9_parish).cls yX9_parish yX9_parish ∈ nh_tb := ⟨nh_in (i := 1059) (by decide +kernel) rfl, nh_in (i := 1060) (by decide +kernel) rfl, nh_in (i := 1061) (by decide +kernel) rfl⟩
theorem vl_L_25 : Cond.methodLink RL 25 yX8_plan ∈ nh_tb ∧ Cond.instanceMethod yX8_plan ∈ nh_tb ∧ Cond.selects (yX8_plan).cls yX8_plan yX8_plan ∈ nh_tb := ⟨nh_in (i := 568) (by decide +kernel) rfl, nh_in (i := 569) (by decide +kernel) rfl, nh_in (i := 570) (by decide +kernel) rfl⟩
theorem vl_L_28 : Cond.methodLink RL 28 yX9_plan ∈ nh_tb ∧ Cond.instanceMethod yX9_plan ∈ nh_tb ∧ Cond.selects (yX9_plan).cls yX9_plan yX9_plan ∈ nh_tb := ⟨nh_in (i := 1122) (by decide +kernel) rfl, nh_in (i := 1123) (by decide +kernel) rfl, nh_in (i := 1124) (by decide +kernel) rfl⟩
theorem vl_L_29 : Cond.methodLink RL 29 yX8_fault ∈ nh_tb ∧ Cond.instanceMethod yX8_fault ∈ nh_tb ∧ Cond.selects (yX8_fault).cls yX8_fault yX8_fault ∈ nh_tb := ⟨nh_in (i := 593) (by decide +kernel) rfl, nh_in (i := 594) (by decide +kernel) rfl, nh_in (i := 595) (by decide +kernel) rfl⟩
theorem vl_L_32 : Cond.methodLink RL 32 yX9_fault ∈ nh_tb ∧ Cond.instanceMethod yX9_fault ∈ nh_tb ∧ Cond.selects (yX9_fault).cls yX9_fault yX9_fault ∈ nh_tb := ⟨nh_in (i := 1127) (by decide +kernel) rfl, nh_in (i := 1128) (by decide +kernel) rfl, nh_in (i := 1129) (by decide +kernel) rfl⟩
theorem vl_L_33 : Cond.methodLink RL 33 yX8_told ∈ nh_tb ∧ Cond.instanceMethod yX8_told ∈ nh_tb ∧ Cond.selects (yX8_told).cls yX8_told yX8_told ∈ nh_tb := ⟨nh_in (i := 597) (by decide +kernel) rfl, nh_in (i := 598) (by decide +kernel) rfl, nh_in (i := 599) (by decide +kernel) rfl⟩
theorem vl_L_37 : Cond.methodLink RL 37 yX9_told ∈ nh_tb ∧ Cond.instanceMethod yX9_told ∈ nh_tb ∧ Cond.selects (yX9_told).cls yX9_told yX9_told ∈ nh_tb := ⟨nh_in (i := 1131) (by decide +kernel) rfl, nh_in (i := 1132) (by decide +kernel) rfl, nh_in (i := 1133) (by decide +kernel) rfl⟩
theorem vl_L_38 : Cond.methodLink RL 38 yX8_house ∈ nh_tb ∧ Cond.instanceMethod yX8_house ∈ nh_tb ∧ Cond.selects (yX8_house).cls yX8_house yX8_house ∈ nh_tb := ⟨nh_in (i := 605) (by decide +kernel) rfl, nh_in (i := 606) (by decide +kernel) rfl, nh_in (i := 607) (by decide +kernel) rfl⟩
theorem vl_L_42 : Cond.methodLink RL 42 yX9_house ∈ nh_tb ∧ Cond.instanceMethod yX9_house ∈ nh_tb ∧ Cond.selects (yX9_house).cls yX9_house yX9_house ∈ nh_tb := ⟨nh_in (i := 1138) (by decide +kernel) rfl, nh_in (i := 1139) (by decide +kernel) rfl, nh_in (i := 1140) (by decide +kernel) rfl⟩
theorem vl_L_43 : Cond.methodLink RL 43 yX8_far ∈ nh_tb ∧ Cond.instanceMethod yX8_far ∈ nh_tb ∧ Cond.selects (yX8_far).cls yX8_far yX8_far ∈ nh_tb := ⟨nh_in (i := 618) (by decide +kernel) rfl, nh_in (i := 619) (by decide +kernel) rfl, nh_in (i := 620) (by decide +kernel) rfl⟩
theorem vl_L_46 : Cond.methodLink RL 46 yX9_far ∈ nh_tb ∧ Cond.instanceMethod yX9_far ∈ nh_tb ∧ Cond.selects (yX9_far).cls yX9_far yX9_far ∈ nh_tb := ⟨nh_in (i := 1152) (by decide +kernel) rfl, nh_in (i := 1153) (by decide +kernel) rfl, nh_in (i := 1154) (by decide +kernel) rfl⟩
theorem vl_L_47 : Cond.methodLink RL 47 yX8_part ∈ nh_tb ∧ Cond.instanceMethod yX8_part ∈ nh_tb ∧ Cond.selects (yX8_part).cls yX8_part yX8_part ∈ nh_tb := ⟨nh_in (i := 622) (by decide +kernel) rfl, nh_in (i := 623) (by decide +kernel) rfl, nh_in (i := 624) (by decide +kernel) rfl⟩
theorem vl_L_50 : Cond.methodLink RL 50 yX9_part ∈ nh_tb ∧ Cond.instanceMethod yX9_part ∈ nh_tb ∧ Cond.selects (yX9_part).cls yX9_part yX9_part ∈ nh_tb := ⟨nh_in (i := 1160) (by decide +kernel) rfl, nh_in (i := 1161) (by decide +kernel) rfl, nh_in (i := 1162) (by decide +kernel) rfl⟩
theorem vl_L_51 : Cond.methodLink RL 51 yX8_away ∈ nh_tb ∧ Cond.instanceMethod yX8_away ∈ nh_tb ∧ Cond.selects (yX8_away).cls yX8_away yX8_away ∈ nh_tb := ⟨nh_in (i := 630) (by decide +kernel) rfl, nh_in (i := 631) (by decide +kernel) rfl, nh_in (i := 632) (by decide +kernel) rfl⟩
theorem vl_L_54 : Cond.methodLink RL 54 yX9_away ∈ nh_tb ∧ Cond.instanceMethod yX9_away ∈ nh_tb ∧ Cond.selects (yX9_away).cls yX9_away yX9_away ∈ nh_tb := ⟨nh_in (i := 1168) (by decide +kernel) rfl, nh_in (i := 1169) (by decide +kernel) rfl, nh_in (i := 1170) (by decide +kernel) rfl⟩
theorem vl_L_55 : Cond.methodLink RL 55 yX8_awake ∈ nh_tb ∧ Cond.instanceMethod yX8_awake ∈ nh_tb ∧ Cond.selects (yX8_awake).cls yX8_awake yX8_awake ∈ nh_tb := ⟨nh_in (i := 640) (by decide +kernel) rfl, nh_in (i := 641) (by decide +kernel) rfl, nh_in (i := 642) (by decide +kernel) rfl⟩
theorem vl_L_58 : Cond.methodLink RL 58 yX9_awake ∈ nh_tb ∧ Cond.instanceMethod yX9_awake ∈ nh_tb ∧ Cond.selects (yX9_awake).cls yX9_awake yX9_awake ∈ nh_tb := ⟨nh_in (i := 1172) (by decide +kernel) rfl, nh_in (i := 1173) (by decide +kernel) rfl, nh_in (i := 1174) (by decide +kernel) rfl⟩
theorem vl_L_59 : Cond.methodLink RL 59 yX8_comes ∈ nh_tb ∧ Cond.instanceMethod yX8_comes ∈ nh_tb ∧ Cond.selects (yX8_comes).cls yX8_comes yX8_comes ∈ nh_tb := ⟨nh_in (i := 662) (by decide +kernel) rfl, nh_in (i := 663) (by decide +kernel) rfl, nh_in (i := 664) (by decide +kernel) rfl⟩
theorem vl_L_63 : Cond.methodLink RL 63 yX9_comes ∈ nh_tb ∧ Cond.instanceMethod yX9_comes ∈ nh_tb ∧ Cond.selects (yX9_comes).cls yX9_comes yX9_comes ∈ nh_tb := ⟨nh_in (i := 1195) (by decide +kernel) rfl, nh_in (i := 1196) (by decide +kernel) rfl, nh_in (i := 1197) (by decide +kernel) rfl⟩
theorem vl_L_64 : Cond.methodLink RL 64 yX8_stands ∈ nh_tb ∧ Cond.instanceMethod yX8_stands ∈ nh_tb ∧ Cond.selects (yX8_stands).cls yX8_stands yX8_stands ∈ nh_tb := ⟨nh_in (i := 670) (by decide +kernel) rfl, nh_in (i := 671) (by decide +kernel) rfl, nh_in (i := 672) (by decide +kernel) rfl⟩
theorem vl_L_67 : Cond.methodLink RL 67 yX9_stands ∈ nh_tb ∧ Cond.instanceMethod yX9_stands ∈ nh_tb ∧ Cond.selects (yX9_stands).cls yX9_stands yX9_stands ∈ nh_tb := ⟨nh_in (i := 1203) (by decide +kernel) rfl, nh_in (i := 1204) (by decide +kernel) rfl, nh_in (i := 1205) (by decide +kernel) rfl⟩
theorem vl_L_68 : Cond.methodLink RL 68 yX8_put ∈ nh_tb ∧ Cond.instanceMethod yX8_put ∈ nh_tb ∧ Cond.selects (yX8_put).cls yX8_put yX8_put ∈ nh_tb := ⟨nh_in (i := 708) (by decide +kernel) rfl, nh_in (i := 709) (by decide +kernel) rfl, nh_in (i := 710) (by decide +kernel) rfl⟩
theorem vl_L_71 : Cond.methodLink RL 71 yX9_put ∈ nh_tb ∧ Cond.instanceMethod yX9_put ∈ nh_tb ∧ Cond.selects (yX9_put).cls yX9_put yX9_put ∈ nh_tb := ⟨nh_in (i := 1219) (by decide +kernel) rfl, nh_in (i := 1220) (by decide +kernel) rfl, nh_in (i := 1221) (by decide +kernel) rfl⟩
theorem vl_L_72 : Cond.methodLink RL 72 yX8_waited ∈ nh_tb ∧ Cond.instanceMethod yX8_waited ∈ nh_tb ∧ Cond.selects (yX8_waited).cls yX8_waited yX8_waited ∈ nh_tb := ⟨nh_in (i := 712) (by decide +kernel) rfl, nh_in (i := 713) (by decide +kernel) rfl, nh_in (i := 714) (by decide +kernel) rfl⟩
theorem vl_L_75 : Cond.methodLink RL 75 yX9_waited ∈ nh_tb ∧ Cond.instanceMethod yX9_waited ∈ nh_tb ∧ Cond.selects (yX9_waited).cls yX9_waited yX9_waited ∈ nh_tb := ⟨nh_in (i := 1223) (by decide +kernel) rfl, nh_in (i := 1224) (by decide +kernel) rfl, nh_in (i := 1225) (by decide +kernel) rfl⟩
theorem vl_L_76 : Cond.methodLink RL 76 yX8_odds ∈ nh_tb ∧ Cond.instanceMethod yX8_odds ∈ nh_tb ∧ Cond.selects (yX8_odds).cls yX8_odds yX8_odds ∈ nh_tb := ⟨nh_in (i := 716) (by decide +kernel) rfl, nh_in (i := 717) (by decide +kernel) rfl, nh_in (i := 718) (by decide +kernel) rfl⟩
theorem vl_L_80 : Cond.methodLink RL 80 yX9_odds ∈ nh_tb ∧ Cond.instanceMethod yX9_odds ∈ nh_tb ∧ Cond.selects (yX9_odds).cls yX9_odds yX9_odds ∈ nh_tb := ⟨nh_in (i := 1227) (by decide +kernel) rfl, nh_in (i := 1228) (by decide +kernel) rfl, nh_in (i := 1229) (by decide +kernel) rfl⟩
theorem vl_L_81 : Cond.methodLink RL 81 yX8_night ∈ nh_tb ∧ Cond.instanceMethod yX8_night ∈ nh_tb ∧ Cond.selects (yX8_night).cls yX8_night yX8_night ∈ nh_tb := ⟨nh_in (i := 732) (by decide +kernel) rfl, nh_in (i := 733) (by decide +kernel) rfl, nh_in (i := 734) (by decide +kernel) rfl⟩
theorem vl_L_84 : Cond.methodLink RL 84 yX9_night ∈ nh_tb ∧ Cond.instanceMethod yX9_night ∈ nh_tb ∧ Cond.selects (yX9_night).cls yX9_night yX9_night ∈ nh_tb := ⟨nh_in (i := 1242) (by decide +kernel) rfl, nh_in (i := 1243) (by decide +kernel) rfl, nh_in (i := 1244) (by decide +kernel) rfl⟩
theorem vl_L_85 : Cond.methodLink RL 85 yX8_crier ∈ nh_tb ∧ Cond.instanceMethod yX8_crier ∈ nh_tb ∧ Cond.selects (yX8_crier).cls yX8_crier yX8_crier ∈ nh_tb := ⟨nh_in (i := 745) (by decide +kernel) rfl, nh_in (i := 746) (by decide +kernel) rfl, nh_in (i := 747) (by decide +kernel) rfl⟩
theorem vl_L_88 : Cond.methodLink RL 88 yX9_crier ∈ nh_tb ∧ Cond.instanceMethod yX9_crier ∈ nh_tb ∧ Cond.selects (yX9_crier).cls yX9_crier yX9_crier ∈ nh_tb := ⟨nh_in (i := 1254) (by decide +kernel) rfl, nh_in (i := 1255) (by decide +kernel) rfl, nh_in (i := 1256) (by decide +kernel) rfl⟩
theorem vl_L_89 : Cond.methodLink RL 89 yX8_keepAt ∈ nh_tb ∧ Cond.instanceMethod yX8_keepAt ∈ nh_tb ∧ Cond.selects (yX8_keepAt).cls yX8_keepAt yX8_keepAt ∈ nh_tb := ⟨nh_in (i := 773) (by decide +kernel) rfl, nh_in (i := 774) (by decide +kernel) rfl, nh_in (i := 775) (by decide +kernel) rfl⟩
theorem vl_L_92 : Cond.methodLink RL 92 yX9_keepAt ∈ nh_tb ∧ Cond.instanceMethod yX9_keepAt ∈ nh_tb ∧ Cond.selects (yX9_keepAt).cls yX9_keepAt yX9_keepAt ∈ nh_tb := ⟨nh_in (i := 1266) (by decide +kernel) rfl, nh_in (i := 1267) (by decide +kernel) rfl, nh_in (i := 1268) (by decide +kernel) rfl⟩
theorem vl_L_93 : Cond.methodLink RL 93 yX8_kept ∈ nh_tb ∧ Cond.instanceMethod yX8_kept ∈ nh_tb ∧ Cond.selects (yX8_kept).cls yX8_kept yX8_kept ∈ nh_tb := ⟨nh_in (i := 777) (by decide +kernel) rfl, nh_in (i := 778) (by decide +kernel) rfl, nh_in (i := 779) (by decide +kernel) rfl⟩
theorem vl_L_96 : Cond.methodLink RL 96 yX9_kept ∈ nh_tb ∧ Cond.instanceMethod yX9_kept ∈ nh_tb ∧ Cond.selects (yX9_kept).cls yX9_kept yX9_kept ∈ nh_tb := ⟨nh_in (i := 1270) (by decide +kernel) rfl, nh_in (i := 1271) (by decide +kernel) rfl, nh_in (i := 1272) (by decide +kernel) rfl⟩
theorem vl_L_97 : Cond.methodLink RL 97 yX8_reach ∈ nh_tb ∧ Cond.instanceMethod yX8_reach ∈ nh_tb ∧ Cond.selects (yX8_reach).cls yX8_reach yX8_reach ∈ nh_tb := ⟨nh_in (i := 806) (by decide +kernel) rfl, nh_in (i := 807) (by decide +kernel) rfl, nh_in (i := 808) (by decide +kernel) rfl⟩
theorem vl_L_100 : Cond.methodLink RL 100 yX9_reach ∈ nh_tb ∧ Cond.instanceMethod yX9_reach ∈ nh_tb ∧ Cond.selects (yX9_reach).cls yX9_reach yX9_reach ∈ nh_tb := ⟨nh_in (i := 1288) (by decide +kernel) rfl, nh_in (i := 1289) (by decide +kernel) rfl, nh_in (i := 1290) (by decide +kernel) rfl⟩
theorem vl_L_101 : Cond.methodLink RL 101 yX8_needed ∈ nh_tb ∧ Cond.instanceMethod yX8_needed ∈ nh_tb ∧ Cond.selects (yX8_needed).cls yX8_needed yX8_needed ∈ nh_tb := ⟨nh_in (i := 818) (by decide +kernel) rfl, nh_in (i := 819) (by decide +kernel) rfl, nh_in (i := 820) (by decide +kernel) rfl⟩
theorem vl_L_104 : Cond.methodLink RL 104 yX9_needed ∈ nh_tb ∧ Cond.instanceMethod yX9_needed ∈ nh_tb ∧ Cond.selects (yX9_needed).cls yX9_needed yX9_needed ∈ nh_tb := ⟨nh_in (i := 1304) (by decide +kernel) rfl, nh_in (i := 1305) (by decide +kernel) rfl, nh_in (i := 1306) (by decide +kernel) rfl⟩
theorem vl_L_105 : Cond.methodLink RL 105 yX8_fit ∈ nh_tb ∧ Cond.instanceMethod yX8_fit ∈ nh_tb ∧ Cond.selects (yX8_fit).cls yX8_fit yX8_fit ∈ nh_tb := ⟨nh_in (i := 828) (by decide +kernel) rfl, nh_in (i := 829) (by decide +kernel) rfl, nh_in (i := 830) (by decide +kernel) rfl⟩
theorem vl_L_108 : Cond.methodLink RL 108 yX9_fit ∈ nh_tb ∧ Cond.instanceMethod yX9_fit ∈ nh_tb ∧ Cond.selects (yX9_fit).cls yX9_fit yX9_fit ∈ nh_tb := ⟨nh_in (i := 1309) (by decide +kernel) rfl, nh_in (i := 1310) (by decide +kernel) rfl, nh_in (i := 1311) (by decide +kernel) rfl⟩
theorem vl_L_109 : Cond.methodLink RL 109 yX8_ladders ∈ nh_tb ∧ Cond.instanceMethod yX8_ladders ∈ nh_tb ∧ Cond.selects (yX8_ladders).cls yX8_ladders yX8_ladders ∈ nh_tb := ⟨nh_in (i := 832) (by decide +kernel) rfl, nh_in (i := 833) (by decide +kernel) rfl, nh_in (i := 834) (by decide +kernel) rfl⟩
theorem vl_L_112 : Cond.methodLink RL 112 yX9_ladders ∈ nh_tb ∧ Cond.instanceMethod yX9_ladders ∈ nh_tb ∧ Cond.selects (yX9_ladders).cls yX9_ladders yX9_ladders ∈ nh_tb := ⟨nh_in (i := 1313) (by decide +kernel) rfl, nh_in (i := 1314) (by decide +kernel) rfl, nh_in (i := 1315) (by decide +kernel) rfl⟩
theorem vl_L_113 : Cond.methodLink RL 113 yX8_longest ∈ nh_tb ∧ Cond.instanceMethod yX8_longest ∈ nh_tb ∧ Cond.selects (yX8_longest).cls yX8_longest yX8_longest ∈ nh_tb := ⟨nh_in (i := 840) (by decide +kernel) rfl, nh_in (i := 841) (by decide +kernel) rfl, nh_in (i := 842) (by decide +kernel) rfl⟩
theorem vl_L_116 : Cond.methodLink RL 116 yX9_longest ∈ nh_tb ∧ Cond.instanceMethod yX9_longest ∈ nh_tb ∧ Cond.selects (yX9_longest).cls yX9_longest yX9_longest ∈ nh_tb := ⟨nh_in (i := 1321) (by decide +kernel) rfl, nh_in (i := 1322) (by decide +kernel) rfl, nh_in (i := 1323) (by decide +kernel) rfl⟩
theorem vl_L_117 : Cond.methodLink RL 117 yX8_cost ∈ nh_tb ∧ Cond.instanceMethod yX8_cost ∈ nh_tb ∧ Cond.selects (yX8_cost).cls yX8_cost yX8_cost ∈ nh_tb := ⟨nh_in (i := 844) (by decide +kernel) rfl, nh_in (i := 845) (by decide +kernel) rfl, nh_in (i := 846) (by decide +kernel) rfl⟩
theorem vl_L_120 : Cond.methodLink RL 120 yX9_cost ∈ nh_tb ∧ Cond.instanceMethod yX9_cost ∈ nh_tb ∧ Cond.selects (yX9_cost).cls yX9_cost yX9_cost ∈ nh_tb := ⟨nh_in (i := 1325) (by decide +kernel) rfl, nh_in (i := 1326) (by decide +kernel) rfl, nh_in (i := 1327) (by decide +kernel) rfl⟩
theorem vl_L_121 : Cond.methodLink RL 121 yX8_store ∈ nh_tb ∧ Cond.instanceMethod yX8_store ∈ nh_tb ∧ Cond.selects (yX8_store).cls yX8_store yX8_store ∈ nh_tb := ⟨nh_in (i := 848) (by decide +kernel) rfl, nh_in (i := 849) (by decide +kernel) rfl, nh_in (i := 850) (by decide +kernel) rfl⟩
theorem vl_L_124 : Cond.methodLink RL 124 yX9_store ∈ nh_tb ∧ Cond.instanceMethod yX9_store ∈ nh_tb ∧ Cond.selects (yX9_store).cls yX9_store yX9_store ∈ nh_tb := ⟨nh_in (i := 1330) (by decide +kernel) rfl, nh_in (i := 1331) (by decide +kernel) rfl, nh_in (i := 1332) (by decide +kernel) rfl⟩
theorem vl_L_125 : Cond.methodLink RL 125 yX8_spares ∈ nh_tb ∧ Cond.instanceMethod yX8_spares ∈ nh_tb ∧ Cond.selects (yX8_spares).cls yX8_spares yX8_spares ∈ nh_tb := ⟨nh_in (i := 852) (by decide +kernel) rfl, nh_in (i := 853) (by decide +kernel) rfl, nh_in (i := 854) (by decide +kernel) rfl⟩
theorem vl_L_128 : Cond.methodLink RL 128 yX9_spares ∈ nh_tb ∧ Cond.instanceMethod yX9_spares ∈ nh_tb ∧ Cond.selects (yX9_spares).cls yX9_spares yX9_spares ∈ nh_tb := ⟨nh_in (i := 1334) (by decide +kernel) rfl, nh_in (i := 1335) (by decide +kernel) rfl, nh_in (i := 1336) (by decide +kernel) rfl⟩
theorem vl_L_129 : Cond.methodLink RL 129 yX8_two ∈ nh_tb ∧ Cond.instanceMethod yX8_two ∈ nh_tb ∧ Cond.selects (yX8_two).cls yX8_two yX8_two ∈ nh_tb := ⟨nh_in (i := 868) (by decide +kernel) rfl, nh_in (i := 869) (by decide +kernel) rfl, nh_in (i := 870) (by decide +kernel) rfl⟩
theorem vl_L_132 : Cond.methodLink RL 132 yX9_two ∈ nh_tb ∧ Cond.instanceMethod yX9_two ∈ nh_tb ∧ Cond.selects (yX9_two).cls yX9_two yX9_two ∈ nh_tb := ⟨nh_in (i := 1338) (by decide +kernel) rfl, nh_in (i := 1339) (by decide +kernel) rfl, nh_in (i := 1340) (by decide +kernel) rfl⟩
theorem vl_L_133 : Cond.methodLink RL 133 yX8_log ∈ nh_tb ∧ Cond.instanceMethod yX8_log ∈ nh_tb ∧ Cond.selects (yX8_log).cls yX8_log yX8_log ∈ nh_tb := ⟨nh_in (i := 878) (by decide +kernel) rfl, nh_in (i := 879) (by decide +kernel) rfl, nh_in (i := 880) (by decide +kernel) rfl⟩
theorem vl_L_136 : Cond.methodLink RL 136 yX9_log ∈ nh_tb ∧ Cond.instanceMethod yX9_log ∈ nh_tb ∧ Cond.selects (yX9_log).cls yX9_log yX9_log ∈ nh_tb := ⟨nh_in (i := 1346) (by decide +kernel) rfl, nh_in (i := 1347) (by decide +kernel) rfl, nh_in (i := 1348) (by decide +kernel) rfl⟩
theorem vl_L_137 : Cond.methodLink RL 137 yX8_clear ∈ nh_tb ∧ Cond.instanceMethod yX8_clear ∈ nh_tb ∧ Cond.selects (yX8_clear).cls yX8_clear yX8_clear ∈ nh_tb := ⟨nh_in (i := 882) (by decide +kernel) rfl, nh_in (i := 883) (by decide +kernel) rfl, nh_in (i := 884) (by decide +kernel) rfl⟩
theorem vl_L_140 : Cond.methodLink RL 140 yX9_clear ∈ nh_tb ∧ Cond.instanceMethod yX9_clear ∈ nh_tb ∧ Cond.selects (yX9_clear).cls yX9_clear yX9_clear ∈ nh_tb := ⟨nh_in (i := 1350) (by decide +kernel) rfl, nh_in (i := 1351) (by decide +kernel) rfl, nh_in (i := 1352) (by decide +kernel) rfl⟩
theorem vl_L_141 : Cond.methodLink RL 141 yX8_late ∈ nh_tb ∧ Cond.instanceMethod yX8_late ∈ nh_tb ∧ Cond.selects (yX8_late).cls yX8_late yX8_late ∈ nh_tb := ⟨nh_in (i := 886) (by decide +kernel) rfl, nh_in (i := 887) (by decide +kernel) rfl, nh_in (i := 888) (by decide +kernel) rfl⟩
theorem vl_L_144 : Cond.methodLink RL 144 yX9_late ∈ nh_tb ∧ Cond.instanceMethod yX9_late ∈ nh_tb ∧ Cond.selects (yX9_late).cls yX9_late yX9_late ∈ nh_tb := ⟨nh_in (i := 1354) (by decide +kernel) rfl, nh_in (i := 1355) (by decide +kernel) rfl, nh_in (i := 1356) (by decide +kernel) rfl⟩
theorem vl_L_145 : Cond.methodLink RL 145 yX8_judge ∈ nh_tb ∧ Cond.instanceMethod yX8_judge ∈ nh_tb ∧ Cond.selects (yX8_judge).cls yX8_judge yX8_judge ∈ nh_tb := ⟨nh_in (i := 894) (by decide +kernel) rfl, nh_in (i := 895) (by decide +kernel) rfl, nh_in (i := 896) (by decide +kernel) rfl⟩
theorem vl_L_148 : Cond.methodLink RL 148 yX9_judge ∈ nh_tb ∧ Cond.instanceMethod yX9_judge ∈ nh_tb ∧ Cond.selects (yX9_judge).cls yX9_judge yX9_judge ∈ nh_tb := ⟨nh_in (i := 1362) (by decide +kernel) rfl, nh_in (i := 1363) (by decide +kernel) rfl, nh_in (i := 1364) (by decide +kernel) rfl⟩
theorem vl_L_149 : Cond.methodLink RL 149 yX8_seed ∈ nh_tb ∧ Cond.instanceMethod yX8_seed ∈ nh_tb ∧ Cond.selects (yX8_seed).cls yX8_seed yX8_seed ∈ nh_tb := ⟨nh_in (i := 906) (by decide +kernel) rfl, nh_in (i := 907) (by decide +kernel) rfl, nh_in (i := 908) (by decide +kernel) rfl⟩
theorem vl_L_152 : Cond.methodLink RL 152 yX9_seed ∈ nh_tb ∧ Cond.instanceMethod yX9_seed ∈ nh_tb ∧ Cond.selects (yX9_seed).cls yX9_seed yX9_seed ∈ nh_tb := ⟨nh_in (i := 1366) (by decide +kernel) rfl, nh_in (i := 1367) (by decide +kernel) rfl, nh_in (i := 1368) (by decide +kernel) rfl⟩
theorem vl_L_153 : Cond.methodLink RL 153 yX8_keep ∈ nh_tb ∧ Cond.instanceMethod yX8_keep ∈ nh_tb ∧ Cond.selects (yX8_keep).cls yX8_keep yX8_keep ∈ nh_tb := ⟨nh_in (i := 910) (by decide +kernel) rfl, nh_in (i := 911) (by decide +kernel) rfl, nh_in (i := 912) (by decide +kernel) rfl⟩
theorem vl_L_156 : Cond.methodLink RL 156 yX9_keep ∈ nh_tb ∧ Cond.instanceMethod yX9_keep ∈ nh_tb ∧ Cond.selects (yX9_keep).cls yX9_keep yX9_keep ∈ nh_tb := ⟨nh_in (i := 1370) (by decide +kernel) rfl, nh_in (i := 1371) (by decide +kernel) rfl, nh_in (i := 1372) (by decide +kernel) rfl⟩
theorem vl_L_157 : Cond.methodLink RL 157 yX8_goBack ∈ nh_tb ∧ Cond.instanceMethod yX8_goBack ∈ nh_tb ∧ Cond.selects (yX8_goBack).cls yX8_goBack yX8_goBack ∈ nh_tb := ⟨nh_in (i := 919) (by decide +kernel) rfl, nh_in (i := 920) (by decide +kernel) rfl, nh_in (i := 921) (by decide +kernel) rfl⟩
theorem vl_L_160 : Cond.methodLink RL 160 yX9_goBack ∈ nh_tb ∧ Cond.instanceMethod yX9_goBack ∈ nh_tb ∧ Cond.selects (yX9_goBack).cls yX9_goBack yX9_goBack ∈ nh_tb := ⟨nh_in (i := 1378) (by decide +kernel) rfl, nh_in (i := 1379) (by decide +kernel) rfl, nh_in (i := 1380) (by decide +kernel) rfl⟩
theorem sl_X9_95 : Cond.methodLink RX9 95 yX9_in ∈ nh_tb ∧ Cond.static yX9_in ∈ nh_tb := ⟨nh_in (i := 1053) (by decide +kernel) rfl, nh_in (i := 1054) (by decide +kernel) rfl⟩
theorem vl_X9_112 : Cond.methodLink RX9 112 yX9_here ∈ nh_tb ∧ Cond.instanceMethod yX9_here ∈ nh_tb ∧ Cond.selects (yX9_here).cls yX9_here yX9_here ∈ nh_tb := ⟨nh_in (i := 1067) (by decide +kernel) rfl, nh_in (i := 1069) (by decide +kernel) rfl, nh_in (i := 32) (by decide +kernel) rfl⟩
theorem vl_X9_130 : Cond.methodLink RX9 130 yX9_want ∈ nh_tb ∧ Cond.instanceMethod yX9_want ∈ nh_tb ∧ Cond.selects (yX9_want).cls yX9_want yX9_want ∈ nh_tb := ⟨nh_in (i := 1089) (by decide +kernel) rfl, nh_in (i := 1091) (by decide +kernel) rfl, nh_in (i := 37) (by decide +kernel) rfl⟩
theorem vl_X9_135 : Cond.methodLink RX9 135 yX9_takeNumber ∈ nh_tb ∧ Cond.instanceMethod yX9_takeNumber ∈ nh_tb ∧ Cond.selects (yX9_takeNumber).cls yX9_takeNumber yX9_takeNumber ∈ nh_tb := ⟨nh_in (i := 1093) (by decide +kernel) rfl, nh_in (i := 1095) (by decide +kernel) rfl, nh_in (i := 38) (by decide +kernel) rfl⟩
theorem vl_X9_139 : Cond.methodLink RX9 139 yX9_takeWord ∈ nh_tb ∧ Cond.instanceMethod yX9_takeWord ∈ nh_tb ∧ Cond.selects (yX9_takeWord).cls yX9_takeWord yX9_takeWord ∈ nh_tb := ⟨nh_in (i := 1075) (by decide +kernel) rfl, nh_in (i := 1077) (by decide +kernel) rfl, nh_in (i := 34) (by decide +kernel) rfl⟩
theorem vl_X9_142 : Cond.methodLink RX9 142 yX9_isWord ∈ nh_tb ∧ Cond.instanceMethod yX9_isWord ∈ nh_tb ∧ Cond.selects (yX9_isWord).cls yX9_isWord yX9_isWord ∈ nh_tb := ⟨nh_in (i := 1081) (by decide +kernel) rfl, nh_in (i := 1083) (by decide +kernel) rfl, nh_in (i := 35) (by decide +kernel) rfl⟩
theorem sl_X9_146 : Cond.methodLink RX9 146 yX9_has ∈ nh_tb ∧ Cond.static yX9_has ∈ nh_tb := ⟨nh_in (i := 1108) (by decide +kernel) rfl, nh_in (i := 1109) (by decide +kernel) rfl⟩
theorem sl_X9_150 : Cond.methodLink RX9 150 yX9_one ∈ nh_tb ∧ Cond.static yX9_one ∈ nh_tb := ⟨nh_in (i := 1111) (by decide +kernel) rfl, nh_in (i := 1112) (by decide +kernel) rfl⟩
theorem vl_X9_154 : Cond.methodLink RX9 154 yX9_takeHouse ∈ nh_tb ∧ Cond.instanceMethod yX9_takeHouse ∈ nh_tb ∧ Cond.selects (yX9_takeHouse).cls yX9_takeHouse yX9_takeHouse ∈ nh_tb := ⟨nh_in (i := 1085) (by decide +kernel) rfl, nh_in (i := 1087) (by decide +kernel) rfl, nh_in (i := 36) (by decide +kernel) rfl⟩
theorem vl_X9_158 : Cond.methodLink RX9 158 yX9_takeWay ∈ nh_tb ∧ Cond.instanceMethod yX9_takeWay ∈ nh_tb ∧ Cond.selects (yX9_takeWay).cls yX9_takeWay yX9_takeWay ∈ nh_tb := ⟨nh_in (i := 1100) (by decide +kernel) rfl, nh_in (i := 1102) (by decide +kernel) rfl, nh_in (i := 39) (by decide +kernel) rfl⟩
theorem vl_X9_161 : Cond.methodLink RX9 161 yX9_takePart ∈ nh_tb ∧ Cond.instanceMethod yX9_takePart ∈ nh_tb ∧ Cond.selects (yX9_takePart).cls yX9_takePart yX9_takePart ∈ nh_tb := ⟨nh_in (i := 1104) (by decide +kernel) rfl, nh_in (i := 1106) (by decide +kernel) rfl, nh_in (i := 40) (by decide +kernel) rfl⟩
theorem vl_X9_164 : Cond.methodLink RX9 164 yX9_takeEnd ∈ nh_tb ∧ Cond.instanceMethod yX9_takeEnd ∈ nh_tb ∧ Cond.selects (yX9_takeEnd).cls yX9_takeEnd yX9_takeEnd ∈ nh_tb := ⟨nh_in (i := 1114) (by decide +kernel) rfl, nh_in (i := 1116) (by decide +kernel) rfl, nh_in (i := 41) (by decide +kernel) rfl⟩
theorem vl_X9_167 : Cond.methodLink RX9 167 yX9_beginReading ∈ nh_tb ∧ Cond.instanceMethod yX9_beginReading ∈ nh_tb ∧ Cond.selects (yX9_beginReading).cls yX9_beginReading yX9_beginReading ∈ nh_tb := ⟨nh_in (i := 1063) (by decide +kernel) rfl, nh_in (i := 1065) (by decide +kernel) rfl, nh_in (i := 31) (by decide +kernel) rfl⟩
theorem vl_X9_170 : Cond.methodLink RX9 170 yX9_takeClause ∈ nh_tb ∧ Cond.instanceMethod yX9_takeClause ∈ nh_tb ∧ Cond.selects (yX9_takeClause).cls yX9_takeClause yX9_takeClause ∈ nh_tb := ⟨nh_in (i := 1071) (by decide +kernel) rfl, nh_in (i := 1073) (by decide +kernel) rfl, nh_in (i := 33) (by decide +kernel) rfl⟩
theorem vl_X9_182 : Cond.methodLink RX9 182 yX9_findFar ∈ nh_tb ∧ Cond.instanceMethod yX9_findFar ∈ nh_tb ∧ Cond.selects (yX9_findFar).cls yX9_findFar yX9_findFar ∈ nh_tb := ⟨nh_in (i := 1118) (by decide +kernel) rfl, nh_in (i := 1120) (by decide +kernel) rfl, nh_in (i := 42) (by decide +kernel) rfl⟩
theorem sl_X9_189 : Cond.methodLink RX9 189 yX9_ones ∈ nh_tb ∧ Cond.static yX9_ones ∈ nh_tb := ⟨nh_in (i := 1135) (by decide +kernel) rfl, nh_in (i := 1136) (by decide +kernel) rfl⟩
theorem vl_X9_193 : Cond.methodLink RX9 193 yX9_isHouse ∈ nh_tb ∧ Cond.instanceMethod yX9_isHouse ∈ nh_tb ∧ Cond.selects (yX9_isHouse).cls yX9_isHouse yX9_isHouse ∈ nh_tb := ⟨nh_in (i := 1142) (by decide +kernel) rfl, nh_in (i := 1144) (by decide +kernel) rfl, nh_in (i := 43) (by decide +kernel) rfl⟩
theorem vl_X9_200 : Cond.methodLink RX9 200 yX9_partsAt ∈ nh_tb ∧ Cond.instanceMethod yX9_partsAt ∈ nh_tb ∧ Cond.selects (yX9_partsAt).cls yX9_partsAt yX9_partsAt ∈ nh_tb := ⟨nh_in (i := 1148) (by decide +kernel) rfl, nh_in (i := 1150) (by decide +kernel) rfl, nh_in (i := 44) (by decide +kernel) rfl⟩
theorem vl_X9_203 : Cond.methodLink RX9 203 yX9_farOf ∈ nh_tb ∧ Cond.instanceMethod yX9_farOf ∈ nh_tb ∧ Cond.selects (yX9_farOf).cls yX9_farOf yX9_farOf ∈ nh_tb := ⟨nh_in (i := 1156) (by decide +kernel) rfl, nh_in (i := 1158) (by decide +kernel) rfl, nh_in (i := 45) (by decide +kernel) rfl⟩
theorem vl_X9_206 : Cond.methodLink RX9 206 yX9_isPart ∈ nh_tb ∧ Cond.instanceMethod yX9_isPart ∈ nh_tb ∧ Cond.selects (yX9_isPart).cls yX9_isPart yX9_isPart ∈ nh_tb := ⟨nh_in (i := 1164) (by decide +kernel) rfl, nh_in (i := 1166) (by decide +kernel) rfl, nh_in (i := 46) (by decide +kernel) rfl⟩
theorem sl_X9_212 : Cond.methodLink RX9 212 yX9_isAway ∈ nh_tb ∧ Cond.static yX9_isAway ∈ nh_tb := ⟨nh_in (i := 1188) (by decide +kernel) rfl, nh_in (i := 1189) (by decide +kernel) rfl⟩
theorem vl_X9_216 : Cond.methodLink RX9 216 yX9_begin ∈ nh_tb ∧ Cond.instanceMethod yX9_begin ∈ nh_tb ∧ Cond.selects (yX9_begin).cls yX9_begin yX9_begin ∈ nh_tb := ⟨nh_in (i := 1180) (by decide +kernel) rfl, nh_in (i := 1182) (by decide +kernel) rfl, nh_in (i := 48) (by decide +kernel) rfl⟩
theorem vl_X9_219 : Cond.methodLink RX9 219 yX9_goRound ∈ nh_tb ∧ Cond.instanceMethod yX9_goRound ∈ nh_tb ∧ Cond.selects (yX9_goRound).cls yX9_goRound yX9_goRound ∈ nh_tb := ⟨nh_in (i := 1184) (by decide +kernel) rfl, nh_in (i := 1186) (by decide +kernel) rfl, nh_in (i := 49) (by decide +kernel) rfl⟩
theorem vl_X9_223 : Cond.methodLink RX9 223 yX9_arriveAwake ∈ nh_tb ∧ Cond.instanceMethod yX9_arriveAwake ∈ nh_tb ∧ Cond.selects (yX9_arriveAwake).cls yX9_arriveAwake yX9_arriveAwake ∈ nh_tb := ⟨nh_in (i := 1191) (by decide +kernel) rfl, nh_in (i := 1193) (by decide +kernel) rfl, nh_in (i := 50) (by decide +kernel) rfl⟩
theorem vl_X9_229 : Cond.methodLink RX9 229 yX9_burn ∈ nh_tb ∧ Cond.instanceMethod yX9_burn ∈ nh_tb ∧ Cond.selects (yX9_burn).cls yX9_burn yX9_burn ∈ nh_tb := ⟨nh_in (i := 1176) (by decide +kernel) rfl, nh_in (i := 1178) (by decide +kernel) rfl, nh_in (i := 47) (by decide +kernel) rfl⟩
theorem vl_X9_233 : Cond.methodLink RX9 233 yX9_comeAll ∈ nh_tb ∧ Cond.instanceMethod yX9_comeAll ∈ nh_tb ∧ Cond.selects (yX9_comeAll).cls yX9_comeAll yX9_comeAll ∈ nh_tb := ⟨nh_in (i := 1199) (by decide +kernel) rfl, nh_in (i := 1201) (by decide +kernel) rfl, nh_in (i := 51) (by decide +kernel) rfl⟩
theorem vl_X9_236 : Cond.methodLink RX9 236 yX9_allParts ∈ nh_tb ∧ Cond.instanceMethod yX9_allParts ∈ nh_tb ∧ Cond.selects (yX9_allParts).cls yX9_allParts yX9_allParts ∈ nh_tb := ⟨nh_in (i := 1211) (by decide +kernel) rfl, nh_in (i := 1213) (by decide +kernel) rfl, nh_in (i := 53) (by decide +kernel) rfl⟩
theorem vl_X9_239 : Cond.methodLink RX9 239 yX9_putIn ∈ nh_tb ∧ Cond.instanceMethod yX9_putIn ∈ nh_tb ∧ Cond.selects (yX9_putIn).cls yX9_putIn yX9_putIn ∈ nh_tb := ⟨nh_in (i := 1215) (by decide +kernel) rfl, nh_in (i := 1217) (by decide +kernel) rfl, nh_in (i := 54) (by decide +kernel) rfl⟩
theorem vl_X9_242 : Cond.methodLink RX9 242 yX9_standsBy ∈ nh_tb ∧ Cond.instanceMethod yX9_standsBy ∈ nh_tb ∧ Cond.selects (yX9_standsBy).cls yX9_standsBy yX9_standsBy ∈ nh_tb := ⟨nh_in (i := 1207) (by decide +kernel) rfl, nh_in (i := 1209) (by decide +kernel) rfl, nh_in (i := 52) (by decide +kernel) rfl⟩
theorem vl_X9_252 : Cond.methodLink RX9 252 yX9_oddsOf ∈ nh_tb ∧ Cond.instanceMethod yX9_oddsOf ∈ nh_tb ∧ Cond.selects (yX9_oddsOf).cls yX9_oddsOf yX9_oddsOf ∈ nh_tb := ⟨nh_in (i := 1232) (by decide +kernel) rfl, nh_in (i := 1234) (by decide +kernel) rfl, nh_in (i := 55) (by decide +kernel) rfl⟩
theorem sl_X9_256 : Cond.methodLink RX9 256 yX9_held ∈ nh_tb ∧ Cond.static yX9_held ∈ nh_tb := ⟨nh_in (i := 1238) (by decide +kernel) rfl, nh_in (i := 1239) (by decide +kernel) rfl⟩
theorem vl_X9_268 : Cond.methodLink RX9 268 yX9_draw ∈ nh_tb ∧ Cond.instanceMethod yX9_draw ∈ nh_tb ∧ Cond.selects (yX9_draw).cls yX9_draw yX9_draw ∈ nh_tb := ⟨nh_in (i := 1246) (by decide +kernel) rfl, nh_in (i := 1248) (by decide +kernel) rfl, nh_in (i := 56) (by decide +kernel) rfl⟩
theorem vl_X9_274 : Cond.methodLink RX9 274 yX9_cried ∈ nh_tb ∧ Cond.instanceMethod yX9_cried ∈ nh_tb ∧ Cond.selects (yX9_cried).cls yX9_cried yX9_cried ∈ nh_tb := ⟨nh_in (i := 1258) (by decide +kernel) rfl, nh_in (i := 1260) (by decide +kernel) rfl, nh_in (i := 57) (by decide +kernel) rfl⟩
theorem vl_X9_277 : Cond.methodLink RX9 277 yX9_nextRound ∈ nh_tb ∧ Cond.instanceMethod yX9_nextRound ∈ nh_tb ∧ Cond.selects (yX9_nextRound).cls yX9_nextRound yX9_nextRound ∈ nh_tb := ⟨nh_in (i := 1262) (by decide +kernel) rfl, nh_in (i := 1264) (by decide +kernel) rfl, nh_in (i := 58) (by decide +kernel) rfl⟩
theorem vl_X9_281 : Cond.methodLink RX9 281 yX9_holds ∈ nh_tb ∧ Cond.instanceMethod yX9_holds ∈ nh_tb ∧ Cond.selects (yX9_holds).cls yX9_holds yX9_holds ∈ nh_tb := ⟨nh_in (i := 1280) (by decide +kernel) rfl, nh_in (i := 1282) (by decide +kernel) rfl, nh_in (i := 60) (by decide +kernel) rfl⟩
theorem vl_X9_284 : Cond.methodLink RX9 284 yX9_movesTwo ∈ nh_tb ∧ Cond.instanceMethod yX9_movesTwo ∈ nh_tb ∧ Cond.selects (yX9_movesTwo).cls yX9_movesTwo yX9_movesTwo ∈ nh_tb := ⟨nh_in (i := 1284) (by decide +kernel) rfl, nh_in (i := 1286) (by decide +kernel) rfl, nh_in (i := 61) (by decide +kernel) rfl⟩
theorem vl_X9_291 : Cond.methodLink RX9 291 yX9_findMoved ∈ nh_tb ∧ Cond.instanceMethod yX9_findMoved ∈ nh_tb ∧ Cond.selects (yX9_findMoved).cls yX9_findMoved yX9_findMoved ∈ nh_tb := ⟨nh_in (i := 1276) (by decide +kernel) rfl, nh_in (i := 1278) (by decide +kernel) rfl, nh_in (i := 59) (by decide +kernel) rfl⟩
theorem vl_X9_294 : Cond.methodLink RX9 294 yX9_canBeIn ∈ nh_tb ∧ Cond.instanceMethod yX9_canBeIn ∈ nh_tb ∧ Cond.selects (yX9_canBeIn).cls yX9_canBeIn yX9_canBeIn ∈ nh_tb := ⟨nh_in (i := 1300) (by decide +kernel) rfl, nh_in (i := 1302) (by decide +kernel) rfl, nh_in (i := 64) (by decide +kernel) rfl⟩
theorem vl_X9_297 : Cond.methodLink RX9 297 yX9_isParts ∈ nh_tb ∧ Cond.instanceMethod yX9_isParts ∈ nh_tb ∧ Cond.selects (yX9_isParts).cls yX9_isParts yX9_isParts ∈ nh_tb := ⟨nh_in (i := 1292) (by decide +kernel) rfl, nh_in (i := 1294) (by decide +kernel) rfl, nh_in (i := 62) (by decide +kernel) rfl⟩
theorem vl_X9_300 : Cond.methodLink RX9 300 yX9_reachOf ∈ nh_tb ∧ Cond.instanceMethod yX9_reachOf ∈ nh_tb ∧ Cond.selects (yX9_reachOf).cls yX9_reachOf yX9_reachOf ∈ nh_tb := ⟨nh_in (i := 1296) (by decide +kernel) rfl, nh_in (i := 1298) (by decide +kernel) rfl, nh_in (i := 63) (by decide +kernel) rfl⟩
theorem vl_X9_305 : Cond.methodLink RX9 305 yX9_laddersOf ∈ nh_tb ∧ Cond.instanceMethod yX9_laddersOf ∈ nh_tb ∧ Cond.selects (yX9_laddersOf).cls yX9_laddersOf yX9_laddersOf ∈ nh_tb := ⟨nh_in (i := 1317) (by decide +kernel) rfl, nh_in (i := 1319) (by decide +kernel) rfl, nh_in (i := 65) (by decide +kernel) rfl⟩
theorem vl_X9_310 : Cond.methodLink RX9 310 yX9_endAt ∈ nh_tb ∧ Cond.instanceMethod yX9_endAt ∈ nh_tb ∧ Cond.selects (yX9_endAt).cls yX9_endAt yX9_endAt ∈ nh_tb := ⟨nh_in (i := 1342) (by decide +kernel) rfl, nh_in (i := 1344) (by decide +kernel) rfl, nh_in (i := 66) (by decide +kernel) rfl⟩
theorem vl_X9_313 : Cond.methodLink RX9 313 yX9_lateOf ∈ nh_tb ∧ Cond.instanceMethod yX9_lateOf ∈ nh_tb ∧ Cond.selects (yX9_lateOf).cls yX9_lateOf yX9_lateOf ∈ nh_tb := ⟨nh_in (i := 1358) (by decide +kernel) rfl, nh_in (i := 1360) (by decide +kernel) rfl, nh_in (i := 67) (by decide +kernel) rfl⟩
theorem vl_X9_316 : Cond.methodLink RX9 316 yX9_copy ∈ nh_tb ∧ Cond.instanceMethod yX9_copy ∈ nh_tb ∧ Cond.selects (yX9_copy).cls yX9_copy yX9_copy ∈ nh_tb := ⟨nh_in (i := 1374) (by decide +kernel) rfl, nh_in (i := 1376) (by decide +kernel) rfl, nh_in (i := 68) (by decide +kernel) rfl⟩
theorem vl_J0_335 : Cond.methodLink RJ0 335 yJ0_coder_7d493 ∈ nh_tb ∧ Cond.instanceMethod yJ0_coder_7d493 ∈ nh_tb ∧ Cond.selects (yJ0_coder_7d493).cls yJ0_coder_7d493 yJ0_coder_7d493 ∈ nh_tb := ⟨nh_in (i := 466) (by decide +kernel) rfl, nh_in (i := 467) (by decide +kernel) rfl, nh_in (i := 468) (by decide +kernel) rfl⟩
theorem vl_J0_492 : Cond.methodLink RJ0 492 yJ0_isLatin1_aae02 ∈ nh_tb ∧ Cond.instanceMethod yJ0_isLatin1_aae02 ∈ nh_tb ∧ Cond.selects (yJ0_isLatin1_aae02).cls yJ0_isLatin1_aae02 yJ0_isLatin1_aae02 ∈ nh_tb := ⟨nh_in (i := 476) (by decide +kernel) rfl, nh_in (i := 477) (by decide +kernel) rfl, nh_in (i := 478) (by decide +kernel) rfl⟩
theorem sl_J0_495 : Cond.methodLink RJ0 495 yJ1_charAt_3b067 ∈ nh_tb ∧ Cond.static yJ1_charAt_3b067 ∈ nh_tb := ⟨nh_in (i := 480) (by decide +kernel) rfl, nh_in (i := 481) (by decide +kernel) rfl⟩
theorem sl_J0_1059 : Cond.methodLink RJ0 1059 yJ3_checkIndex_8e157 ∈ nh_tb ∧ Cond.static yJ3_checkIndex_8e157 ∈ nh_tb := ⟨nh_in (i := 488) (by decide +kernel) rfl, nh_in (i := 489) (by decide +kernel) rfl⟩
theorem sl_J1_9 : Cond.methodLink RJ1 9 yJ0_checkIndex_df160 ∈ nh_tb ∧ Cond.static yJ0_checkIndex_df160 ∈ nh_tb := ⟨nh_in (i := 483) (by decide +kernel) rfl, nh_in (i := 484) (by decide +kernel) rfl⟩
theorem sl_J2_414 : Cond.methodLink RJ2 414 yJ0_checkIndex_df160 ∈ nh_tb ∧ Cond.static yJ0_checkIndex_df160 ∈ nh_tb := ⟨nh_in (i := 500) (by decide +kernel) rfl, nh_in (i := 484) (by decide +kernel) rfl⟩
theorem mm_X8_236 : Cond.methodLink RX8 236 Lib.Math.max.name ∈ nh_tb ∧ Cond.static Lib.Math.max.name ∈ nh_tb ∧ Cond.initialized "java/lang/Math" ∈ nh_tb ∧ Cond.code Lib.Math.max.name Lib.Math.max.code 2 (some .int) ∈ nh_tb := ⟨nh_in (i := 730) (by decide +kernel) rfl, nh_in (i := 698) (by decide +kernel) rfl, nh_in (i := 85) (by decide +kernel) rfl, nh_in (i := 699) (by decide +kernel) rfl⟩
theorem mm_X8_297 : Cond.methodLink RX8 297 Lib.Math.min.name ∈ nh_tb ∧ Cond.static Lib.Math.min.name ∈ nh_tb ∧ Cond.initialized "java/lang/Math" ∈ nh_tb ∧ Cond.code Lib.Math.min.name Lib.Math.min.code 2 (some .int) ∈ nh_tb := ⟨nh_in (i := 877) (by decide +kernel) rfl, nh_in (i := 564) (by decide +kernel) rfl, nh_in (i := 85) (by decide +kernel) rfl, nh_in (i := 565) (by decide +kernel) rfl⟩
theorem ac_X0_81 : Cond.methodLink RX0 81 arraycopyName ∈ nh_tb ∧ Cond.native arraycopyName ∈ nh_tb ∧ Cond.static arraycopyName ∈ nh_tb ∧ Cond.initialized "java/lang/System" ∈ nh_tb := ⟨nh_in (i := 763) (by decide +kernel) rfl, nh_in (i := 765) (by decide +kernel) rfl, nh_in (i := 764) (by decide +kernel) rfl, nh_in (i := 86) (by decide +kernel) rfl⟩
theorem ac_X1_40 : Cond.methodLink RX1 40 arraycopyName ∈ nh_tb ∧ Cond.native arraycopyName ∈ nh_tb ∧ Cond.static arraycopyName ∈ nh_tb ∧ Cond.initialized "java/lang/System" ∈ nh_tb := ⟨nh_in (i := 785) (by decide +kernel) rfl, nh_in (i := 765) (by decide +kernel) rfl, nh_in (i := 764) (by decide +kernel) rfl, nh_in (i := 86) (by decide +kernel) rfl⟩
theorem ac_X2_30 : Cond.methodLink RX2 30 arraycopyName ∈ nh_tb ∧ Cond.native arraycopyName ∈ nh_tb ∧ Cond.static arraycopyName ∈ nh_tb ∧ Cond.initialized "java/lang/System" ∈ nh_tb := ⟨nh_in (i := 918) (by decide +kernel) rfl, nh_in (i := 765) (by decide +kernel) rfl, nh_in (i := 764) (by decide +kernel) rfl, nh_in (i := 86) (by decide +kernel) rfl⟩
theorem mm_X2_46 : Cond.methodLink RX2 46 Lib.Math.max.name ∈ nh_tb ∧ Cond.static Lib.Math.max.name ∈ nh_tb ∧ Cond.initialized "java/lang/Math" ∈ nh_tb ∧ Cond.code Lib.Math.max.name Lib.Math.max.code 2 (some .int) ∈ nh_tb := ⟨nh_in (i := 744) (by decide +kernel) rfl, nh_in (i := 698) (by decide +kernel) rfl, nh_in (i := 85) (by decide +kernel) rfl, nh_in (i := 699) (by decide +kernel) rfl⟩
theorem mm_X3_125 : Cond.methodLink RX3 125 Lib.Math.min.name ∈ nh_tb ∧ Cond.static Lib.Math.min.name ∈ nh_tb ∧ Cond.initialized "java/lang/Math" ∈ nh_tb ∧ Cond.code Lib.Math.min.name Lib.Math.min.code 2 (some .int) ∈ nh_tb := ⟨nh_in (i := 563) (by decide +kernel) rfl, nh_in (i := 564) (by decide +kernel) rfl, nh_in (i := 85) (by decide +kernel) rfl, nh_in (i := 565) (by decide +kernel) rfl⟩
theorem mm_X5_65 : Cond.methodLink RX5 65 Lib.Math.max.name ∈ nh_tb ∧ Cond.static Lib.Math.max.name ∈ nh_tb ∧ Cond.initialized "java/lang/Math" ∈ nh_tb ∧ Cond.code Lib.Math.max.name Lib.Math.max.code 2 (some .int) ∈ nh_tb := ⟨nh_in (i := 697) (by decide +kernel) rfl, nh_in (i := 698) (by decide +kernel) rfl, nh_in (i := 85) (by decide +kernel) rfl, nh_in (i := 699) (by decide +kernel) rfl⟩
theorem js_9 : Cond.fieldLink RJ0 9 "java/lang/String" "value" "[B" ∈ nh_tb := nh_in (i := 1383) (by decide +kernel) rfl
theorem js_15 : Cond.fieldLink RJ0 15 "java/lang/String" "coder" "B" ∈ nh_tb := nh_in (i := 1384) (by decide +kernel) rfl
theorem js_38 : Cond.fieldLink RJ0 38 "java/lang/String" "COMPACT_STRINGS" "Z" ∈ nh_tb := nh_in (i := 470) (by decide +kernel) rfl
theorem js_1053 : Cond.fieldLink RJ0 1053 "jdk/internal/util/Preconditions" "SIOOBE_FORMATTER" "Ljava/util/function/BiFunction;" ∈ nh_tb := nh_in (i := 486) (by decide +kernel) rfl
