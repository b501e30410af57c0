/-! the cells, as the constructors make them -/
def qKS : List qKd := [(0, 17), (1, 3), (100, 8), (100, 8), (103, 8), (100, 60), (100, 60), (100, 60), (100, 60), (100, 60), (100, 60), (100, 60), (100, 60), (2, 2), (103, 12), (100, 11), (100, 11), (100, 11), (100, 11), (100, 11), (100, 11), (100, 11), (100, 11), (100, 11), (100, 11), (100, 11), (100, 11), (3, 6), (101, 500), (4, 4), (100, 30), (100, 30), (100, 8), (5, 4), (100, 20), (100, 20), (100, 20), (6, 6), (100, 10), (100, 10), (100, 10), (100, 10), (7, 10), (100, 60), (100, 60), (100, 60), (102, 60), (100, 60), (8, 5), (100, 10), (100, 10), (100, 10), (100, 10), (9, 11), (100, 6), (100, 6), (100, 20), (100, 20), (100, 20), (5, 4), (100, 20), (100, 20), (100, 20), (100, 20), (100, 20), (100, 20), (100, 3), (10, 4), (100, 12), (100, 12), (103, 12), (100, 4), (100, 4), (100, 4), (100, 4), (100, 4), (100, 4), (100, 4), (100, 4), (100, 4), (100, 4), (100, 4), (100, 4), (103, 12), (100, 4), (100, 4), (100, 4), (100, 4), (100, 4), (100, 4), (100, 4), (100, 4), (100, 4), (100, 4), (100, 4), (100, 4), (11, 11), (100, 8), (100, 8), (102, 8), (102, 256), (100, 4), (100, 8), (100, 16), (12, 65), (100, 8), (100, 8), (100, 480), (100, 132), (100, 500), (100, 30), (100, 30), (100, 60), (100, 60), (100, 60), (102, 60), (100, 8), (100, 20), (100, 20), (100, 20), (100, 10), (100, 10), (100, 10), (100, 10), (100, 6), (100, 6), (100, 20), (100, 20), (100, 20), (100, 20), (100, 20), (100, 20), (100, 3), (100, 12), (100, 12), (100, 96), (100, 10), (100, 10), (100, 10), (100, 10), (100, 20), (100, 20), (100, 20), (100, 8), (100, 8), (100, 8), (100, 16)]
def qRT : List (List (Option Nat)) := [[some 1, some 13, some 27, some 29, some 32, some 33, some 37, some 42, some 48, some 53, some 66, some 67, some 96, some 103, none, none, none], [some 2, some 3, some 4], [], [], [], [], [], [], [], [], [], [], [], [some 14, none], [], [], [], [], [], [], [], [], [], [], [], [], [], [some 28, none, none, none, none, none], [], [some 30, some 31, none, none], [], [], [], [some 34, some 35, some 36, none], [], [], [], [some 13, some 38, some 39, some 40, some 41, none], [], [], [], [], [some 13, some 37, some 33, some 32, some 43, some 44, some 45, some 46, some 47, none], [], [], [], [], [], [some 49, some 50, some 51, some 52, none], [], [], [], [], [some 54, some 55, some 56, some 57, some 58, none, some 59, some 63, some 64, some 65, none], [], [], [], [], [], [some 60, some 61, some 62, none], [], [], [], [], [], [], [], [some 68, some 69, some 70, some 83], [], [], [], [], [], [], [], [], [], [], [], [], [], [], [], [], [], [], [], [], [], [], [], [], [], [], [], [], [some 13, some 33, some 32, some 97, some 98, some 99, none, some 100, none, some 101, some 102], [], [], [], [], [], [], [], [none, none, some 105, some 106, some 107, none, some 108, some 109, none, none, none, none, none, none, none, none, none, none, none, some 110, some 111, none, some 112, some 113, some 114, some 115, some 116, none, some 117, some 118, some 119, none, some 120, some 121, some 122, some 123, some 124, some 125, none, some 126, some 127, some 128, none, some 129, some 130, some 131, some 132, some 133, some 134, some 135, none, some 136, some 137, some 138, some 139, none, some 140, some 141, some 142, some 143, some 144, some 145, none, some 146, none], [], [], [], [], [], [], [], [], [], [], [], [], [], [], [], [], [], [], [], [], [], [], [], [], [], [], [], [], [], [], [], [], [], [], [], [], [], [], [], [], [], []]
def qRF : qRf := fun k j => if k = 4 ∨ k = 14 ∨ k = 70 ∨ k = 83 then some (k + 1 + j) else (qRT.getD k []).getD j none
theorem qKS_len : qKS.length ≤ 1048576 := by decide +kernel
theorem kc_0 : qKS[0]? = some (0, 17) := rfl
theorem kc_1 : qKS[1]? = some (1, 3) := rfl
theorem kc_2 : qKS[2]? = some (100, 8) := rfl
theorem kc_3 : qKS[3]? = some (100, 8) := rfl
theorem kc_4 : qKS[4]? = some (103, 8) := rfl
theorem kc_13 : qKS[13]? = some (2, 2) := rfl
theorem kc_14 : qKS[14]? = some (103, 12) := rfl
theorem kc_27 : qKS[27]? = some (3, 6) := rfl
theorem kc_28 : qKS[28]? = some (101, 500) := rfl
theorem kc_29 : qKS[29]? = some (4, 4) := rfl
theorem kc_30 : qKS[30]? = some (100, 30) := rfl
theorem kc_31 : qKS[31]? = some (100, 30) := rfl
theorem kc_32 : qKS[32]? = some (100, 8) := rfl
theorem kc_33 : qKS[33]? = some (5, 4) := rfl
theorem kc_34 : qKS[34]? = some (100, 20) := rfl
theorem kc_35 : qKS[35]? = some (100, 20) := rfl
theorem kc_36 : qKS[36]? = some (100, 20) := rfl
theorem kc_37 : qKS[37]? = some (6, 6) := rfl
theorem kc_38 : qKS[38]? = some (100, 10) := rfl
theorem kc_39 : qKS[39]? = some (100, 10) := rfl
theorem kc_40 : qKS[40]? = some (100, 10) := rfl
theorem kc_41 : qKS[41]? = some (100, 10) := rfl
theorem kc_42 : qKS[42]? = some (7, 10) := rfl
theorem kc_43 : qKS[43]? = some (100, 60) := rfl
theorem kc_44 : qKS[44]? = some (100, 60) := rfl
theorem kc_45 : qKS[45]? = some (100, 60) := rfl
theorem kc_46 : qKS[46]? = some (102, 60) := rfl
theorem kc_47 : qKS[47]? = some (100, 60) := rfl
theorem kc_48 : qKS[48]? = some (8, 5) := rfl
theorem kc_49 : qKS[49]? = some (100, 10) := rfl
theorem kc_50 : qKS[50]? = some (100, 10) := rfl
theorem kc_51 : qKS[51]? = some (100, 10) := rfl
theorem kc_52 : qKS[52]? = some (100, 10) := rfl
theorem kc_53 : qKS[53]? = some (9, 11) := rfl
theorem kc_54 : qKS[54]? = some (100, 6) := rfl
theorem kc_55 : qKS[55]? = some (100, 6) := rfl
theorem kc_56 : qKS[56]? = some (100, 20) := rfl
theorem kc_57 : qKS[57]? = some (100, 20) := rfl
theorem kc_58 : qKS[58]? = some (100, 20) := rfl
theorem kc_59 : qKS[59]? = some (5, 4) := rfl
theorem kc_60 : qKS[60]? = some (100, 20) := rfl
theorem kc_61 : qKS[61]? = some (100, 20) := rfl
theorem kc_62 : qKS[62]? = some (100, 20) := rfl
theorem kc_63 : qKS[63]? = some (100, 20) := rfl
theorem kc_64 : qKS[64]? = some (100, 20) := rfl
theorem kc_65 : qKS[65]? = some (100, 20) := rfl
theorem kc_66 : qKS[66]? = some (100, 3) := rfl
theorem kc_67 : qKS[67]? = some (10, 4) := rfl
theorem kc_68 : qKS[68]? = some (100, 12) := rfl
theorem kc_69 : qKS[69]? = some (100, 12) := rfl
theorem kc_70 : qKS[70]? = some (103, 12) := rfl
theorem kc_83 : qKS[83]? = some (103, 12) := rfl
theorem kc_96 : qKS[96]? = some (11, 11) := rfl
theorem kc_97 : qKS[97]? = some (100, 8) := rfl
theorem kc_98 : qKS[98]? = some (100, 8) := rfl
theorem kc_99 : qKS[99]? = some (102, 8) := rfl
theorem kc_100 : qKS[100]? = some (102, 256) := rfl
theorem kc_101 : qKS[101]? = some (100, 4) := rfl
theorem kc_102 : qKS[102]? = some (100, 8) := rfl
theorem kc_103 : qKS[103]? = some (100, 16) := rfl
theorem kc_104 : qKS[104]? = some (12, 65) := rfl
theorem kc_105 : qKS[105]? = some (100, 8) := rfl
theorem kc_106 : qKS[106]? = some (100, 8) := rfl
theorem kc_107 : qKS[107]? = some (100, 480) := rfl
theorem kc_108 : qKS[108]? = some (100, 132) := rfl
theorem kc_109 : qKS[109]? = some (100, 500) := rfl
theorem kc_110 : qKS[110]? = some (100, 30) := rfl
theorem kc_111 : qKS[111]? = some (100, 30) := rfl
theorem kc_112 : qKS[112]? = some (100, 60) := rfl
theorem kc_113 : qKS[113]? = some (100, 60) := rfl
theorem kc_114 : qKS[114]? = some (100, 60) := rfl
theorem kc_115 : qKS[115]? = some (102, 60) := rfl
theorem kc_116 : qKS[116]? = some (100, 8) := rfl
theorem kc_117 : qKS[117]? = some (100, 20) := rfl
theorem kc_118 : qKS[118]? = some (100, 20) := rfl
theorem kc_119 : qKS[119]? = some (100, 20) := rfl
theorem kc_120 : qKS[120]? = some (100, 10) := rfl
theorem kc_121 : qKS[121]? = some (100, 10) := rfl
theorem kc_122 : qKS[122]? = some (100, 10) := rfl
theorem kc_123 : qKS[123]? = some (100, 10) := rfl
theorem kc_124 : qKS[124]? = some (100, 6) := rfl
theorem kc_125 : qKS[125]? = some (100, 6) := rfl
theorem kc_126 : qKS[126]? = some (100, 20) := rfl
theorem kc_127 : qKS[127]? = some (100, 20) := rfl
theorem kc_128 : qKS[128]? = some (100, 20) := rfl
theorem kc_129 : qKS[129]? = some (100, 20) := rfl
theorem kc_130 : qKS[130]? = some (100, 20) := rfl
theorem kc_131 : qKS[131]? = some (100, 20) := rfl
theorem kc_132 : qKS[132]? = some (100, 3) := rfl
theorem kc_133 : qKS[133]? = some (100, 12) := rfl
theorem kc_134 : qKS[134]? = some (100, 12) := rfl
theorem kc_135 : qKS[135]? = some (100, 96) := rfl
theorem kc_136 : qKS[136]? = some (100, 10) := rfl
theorem kc_137 : qKS[137]? = some (100, 10) := rfl
theorem kc_138 : qKS[138]? = some (100, 10) := rfl
theorem kc_139 : qKS[139]? = some (100, 10) := rfl
theorem kc_140 : qKS[140]? = some (100, 20) := rfl
theorem kc_141 : qKS[141]? = some (100, 20) := rfl
theorem kc_142 : qKS[142]? = some (100, 20) := rfl
theorem kc_143 : qKS[143]? = some (100, 8) := rfl
theorem kc_144 : qKS[144]? = some (100, 8) := rfl
theorem kc_145 : qKS[145]? = some (100, 8) := rfl
theorem kc_146 : qKS[146]? = some (100, 16) := rfl
theorem kr_4 {i : Int32} (h : qin i 8 = true) : qKS[5 + qi i]? = some (100, 60) := by
  have h1 : i.toNatClampNeg < 8 := by
    unfold qin at h
    simp only [Bool.and_eq_true, decide_eq_true_eq] at h
    exact h.2
  show qKS[5 + i.toNatClampNeg]? = _
  generalize i.toNatClampNeg = j at h1
  revert j
  decide +kernel
theorem kr_14 {i : Int32} (h : qin i 12 = true) : qKS[15 + qi i]? = some (100, 11) := by
  have h1 : i.toNatClampNeg < 12 := by
    unfold qin at h
    simp only [Bool.and_eq_true, decide_eq_true_eq] at h
    exact h.2
  show qKS[15 + i.toNatClampNeg]? = _
  generalize i.toNatClampNeg = j at h1
  revert j
  decide +kernel
theorem kr_70 {i : Int32} (h : qin i 12 = true) : qKS[71 + qi i]? = some (100, 4) := by
  have h1 : i.toNatClampNeg < 12 := by
    unfold qin at h
    simp only [Bool.and_eq_true, decide_eq_true_eq] at h
    exact h.2
  show qKS[71 + i.toNatClampNeg]? = _
  generalize i.toNatClampNeg = j at h1
  revert j
  decide +kernel
theorem kr_83 {i : Int32} (h : qin i 12 = true) : qKS[84 + qi i]? = some (100, 4) := by
  have h1 : i.toNatClampNeg < 12 := by
    unfold qin at h
    simp only [Bool.and_eq_true, decide_eq_true_eq] at h
    exact h.2
  show qKS[84 + i.toNatClampNeg]? = _
  generalize i.toNatClampNeg = j at h1
  revert j
  decide +kernel
