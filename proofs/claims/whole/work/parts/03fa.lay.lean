/-! the cells of the two objects, as their constructors make them -/
def v_ls : List (Nat × Nat) := [(0, 11), (0, 3), (1, 24), (1, 24), (1, 24), (1, 24), (1, 24), (1, 24), (1, 24), (1, 24), (1, 24), (0, 4), (1, 480), (1, 480), (1, 480), (1, 480), (1, 20), (1, 20), (0, 2), (1, 24), (1, 24), (1, 24), (1, 24), (1, 24), (1, 24), (1, 24), (1, 24), (1, 24), (1, 24), (0, 1), (1, 8), (1, 8), (1, 8), (1, 8), (1, 8), (0, 7), (0, 9), (1, 400), (1, 401), (1, 401), (1, 401), (0, 5), (1, 12), (1, 12), (1, 12), (1, 12), (1, 12), (1, 400), (5, 12), (0, 0), (1, 7), (1, 64), (0, 8), (1, 200), (1, 200), (1, 200), (1, 200), (1, 200), (1, 200), (1, 200), (1, 200), (1, 100), (1, 100), (2, 100), (0, 10), (1, 200), (1, 200), (1, 200), (1, 200), (1, 200), (1, 200), (0, 6), (1, 30), (1, 30), (1, 30), (1, 30), (1, 480), (6, 4), (1, 4), (0, 12), (1, 24), (1, 24), (1, 24), (1, 24), (1, 24), (1, 24), (1, 24), (1, 24), (1, 480), (1, 480), (1, 480), (1, 480), (1, 20), (1, 20), (1, 24), (1, 24), (1, 24), (1, 24), (1, 24), (1, 24), (1, 24), (1, 8), (1, 8), (1, 8), (1, 8), (1, 8), (1, 24), (3, 400), (1, 3600), (1, 3600), (1, 12), (1, 12), (1, 12), (1, 144), (1, 144), (1, 144), (1, 144), (1, 144), (1, 144), (1, 402), (4, 7), (4, 300), (1, 200), (1, 200), (1, 200), (1, 200), (1, 200), (1, 200), (1, 100), (1, 100), (1, 100), (2, 100), (2, 200), (2, 200), (1, 200), (1, 200), (1, 200), (1, 200), (1, 200), (1, 200), (1, 30), (1, 30), (1, 30), (1, 480), (1, 30), (1, 8000), (1, 4), (1, 4), (1, 4), (2, 4)]
def v_lp : Nat → Nat → Option Nat := fun k => match k with
  | 0 => fun j => match j with
    | 2 => some 1
    | 3 => some 11
    | 4 => some 18
    | 5 => some 29
    | 6 => some 35
    | 7 => some 48
    | 8 => some 49
    | 9 => some 52
    | 10 => some 64
    | 11 => some 71
    | 12 => some 77
    | 13 => some 78
    | _ => none
  | 1 => fun j => match j with
    | 1 => some 2
    | 2 => some 3
    | 3 => some 4
    | 4 => some 5
    | 5 => some 6
    | 6 => some 7
    | 7 => some 8
    | 8 => some 9
    | 9 => some 10
    | _ => none
  | 11 => fun j => match j with
    | 1 => some 12
    | 2 => some 13
    | 3 => some 14
    | 4 => some 15
    | 5 => some 16
    | 6 => some 17
    | _ => none
  | 18 => fun j => match j with
    | 0 => some 19
    | 1 => some 20
    | 2 => some 21
    | 3 => some 22
    | 4 => some 23
    | 5 => some 24
    | 6 => some 25
    | 7 => some 26
    | 8 => some 27
    | 9 => some 28
    | _ => none
  | 29 => fun j => match j with
    | 1 => some 30
    | 2 => some 31
    | 3 => some 32
    | 4 => some 33
    | 5 => some 34
    | _ => none
  | 35 => fun j => match j with
    | 0 => some 36
    | _ => none
  | 36 => fun j => match j with
    | 3 => some 37
    | 4 => some 38
    | 5 => some 39
    | 6 => some 40
    | _ => none
  | 41 => fun j => match j with
    | 4 => some 42
    | 5 => some 43
    | 6 => some 44
    | 7 => some 45
    | 8 => some 46
    | 9 => some 47
    | _ => none
  | 49 => fun j => match j with
    | 6 => some 50
    | 7 => some 51
    | _ => none
  | 52 => fun j => match j with
    | 1 => some 53
    | 2 => some 54
    | 3 => some 55
    | 4 => some 56
    | 5 => some 57
    | 6 => some 58
    | 7 => some 59
    | 8 => some 60
    | 10 => some 61
    | 11 => some 62
    | 12 => some 63
    | _ => none
  | 64 => fun j => match j with
    | 1 => some 65
    | 2 => some 66
    | 3 => some 67
    | 4 => some 68
    | 5 => some 69
    | 6 => some 70
    | _ => none
  | 71 => fun j => match j with
    | 1 => some 72
    | 2 => some 73
    | 3 => some 74
    | 4 => some 75
    | 5 => some 76
    | _ => none
  | 79 => fun j => match j with
    | 4 => some 80
    | 5 => some 81
    | 6 => some 82
    | 7 => some 83
    | 8 => some 84
    | 9 => some 85
    | 10 => some 86
    | 11 => some 87
    | 12 => some 88
    | 13 => some 89
    | 14 => some 90
    | 15 => some 91
    | 16 => some 92
    | 17 => some 93
    | 18 => some 94
    | 19 => some 95
    | 20 => some 96
    | 21 => some 97
    | 22 => some 98
    | 23 => some 99
    | 24 => some 100
    | 26 => some 101
    | 27 => some 102
    | 28 => some 103
    | 29 => some 104
    | 30 => some 105
    | 31 => some 106
    | 40 => some 107
    | 41 => some 108
    | 42 => some 109
    | 43 => some 110
    | 44 => some 111
    | 45 => some 112
    | 46 => some 113
    | 47 => some 114
    | 48 => some 115
    | 49 => some 116
    | 50 => some 117
    | 51 => some 118
    | 52 => some 119
    | 53 => some 120
    | 54 => some 121
    | 62 => some 122
    | 63 => some 123
    | 64 => some 124
    | 65 => some 125
    | 66 => some 126
    | 67 => some 127
    | 68 => some 128
    | 69 => some 129
    | 70 => some 130
    | 71 => some 131
    | 72 => some 132
    | 73 => some 133
    | 74 => some 134
    | 75 => some 135
    | 76 => some 136
    | 77 => some 137
    | 78 => some 138
    | 79 => some 139
    | 81 => some 140
    | 82 => some 141
    | 83 => some 142
    | 84 => some 143
    | 85 => some 144
    | 86 => some 145
    | 87 => some 146
    | 88 => some 147
    | 89 => some 148
    | 90 => some 149
    | _ => none
  | _ => fun _ => none
def v_Lay (sh : v_S) (P : v_P) : Prop := (∀ (k : Nat) (q : Nat × Nat), v_ls[k]? = some q → sh[k]? = some q) ∧ ∀ k j q : Nat, v_lp k j = some q → P k j = some q
theorem ls_0 : v_ls[0]? = some (0, 11) := rfl
theorem ls_1 : v_ls[1]? = some (0, 3) := rfl
theorem ls_2 : v_ls[2]? = some (1, 24) := rfl
theorem ls_3 : v_ls[3]? = some (1, 24) := rfl
theorem ls_4 : v_ls[4]? = some (1, 24) := rfl
theorem ls_5 : v_ls[5]? = some (1, 24) := rfl
theorem ls_6 : v_ls[6]? = some (1, 24) := rfl
theorem ls_7 : v_ls[7]? = some (1, 24) := rfl
theorem ls_8 : v_ls[8]? = some (1, 24) := rfl
theorem ls_9 : v_ls[9]? = some (1, 24) := rfl
theorem ls_10 : v_ls[10]? = some (1, 24) := rfl
theorem ls_11 : v_ls[11]? = some (0, 4) := rfl
theorem ls_12 : v_ls[12]? = some (1, 480) := rfl
theorem ls_13 : v_ls[13]? = some (1, 480) := rfl
theorem ls_14 : v_ls[14]? = some (1, 480) := rfl
theorem ls_15 : v_ls[15]? = some (1, 480) := rfl
theorem ls_16 : v_ls[16]? = some (1, 20) := rfl
theorem ls_17 : v_ls[17]? = some (1, 20) := rfl
theorem ls_18 : v_ls[18]? = some (0, 2) := rfl
theorem ls_19 : v_ls[19]? = some (1, 24) := rfl
theorem ls_20 : v_ls[20]? = some (1, 24) := rfl
theorem ls_21 : v_ls[21]? = some (1, 24) := rfl
theorem ls_22 : v_ls[22]? = some (1, 24) := rfl
theorem ls_23 : v_ls[23]? = some (1, 24) := rfl
theorem ls_24 : v_ls[24]? = some (1, 24) := rfl
theorem ls_25 : v_ls[25]? = some (1, 24) := rfl
theorem ls_26 : v_ls[26]? = some (1, 24) := rfl
theorem ls_27 : v_ls[27]? = some (1, 24) := rfl
theorem ls_28 : v_ls[28]? = some (1, 24) := rfl
theorem ls_29 : v_ls[29]? = some (0, 1) := rfl
theorem ls_30 : v_ls[30]? = some (1, 8) := rfl
theorem ls_31 : v_ls[31]? = some (1, 8) := rfl
theorem ls_32 : v_ls[32]? = some (1, 8) := rfl
theorem ls_33 : v_ls[33]? = some (1, 8) := rfl
theorem ls_34 : v_ls[34]? = some (1, 8) := rfl
theorem ls_35 : v_ls[35]? = some (0, 7) := rfl
theorem ls_36 : v_ls[36]? = some (0, 9) := rfl
theorem ls_37 : v_ls[37]? = some (1, 400) := rfl
theorem ls_38 : v_ls[38]? = some (1, 401) := rfl
theorem ls_39 : v_ls[39]? = some (1, 401) := rfl
theorem ls_40 : v_ls[40]? = some (1, 401) := rfl
theorem ls_41 : v_ls[41]? = some (0, 5) := rfl
theorem ls_42 : v_ls[42]? = some (1, 12) := rfl
theorem ls_43 : v_ls[43]? = some (1, 12) := rfl
theorem ls_44 : v_ls[44]? = some (1, 12) := rfl
theorem ls_45 : v_ls[45]? = some (1, 12) := rfl
theorem ls_46 : v_ls[46]? = some (1, 12) := rfl
theorem ls_47 : v_ls[47]? = some (1, 400) := rfl
theorem ls_48 : v_ls[48]? = some (5, 12) := rfl
theorem ls_49 : v_ls[49]? = some (0, 0) := rfl
theorem ls_50 : v_ls[50]? = some (1, 7) := rfl
theorem ls_51 : v_ls[51]? = some (1, 64) := rfl
theorem ls_52 : v_ls[52]? = some (0, 8) := rfl
theorem ls_53 : v_ls[53]? = some (1, 200) := rfl
theorem ls_54 : v_ls[54]? = some (1, 200) := rfl
theorem ls_55 : v_ls[55]? = some (1, 200) := rfl
theorem ls_56 : v_ls[56]? = some (1, 200) := rfl
theorem ls_57 : v_ls[57]? = some (1, 200) := rfl
theorem ls_58 : v_ls[58]? = some (1, 200) := rfl
theorem ls_59 : v_ls[59]? = some (1, 200) := rfl
theorem ls_60 : v_ls[60]? = some (1, 200) := rfl
theorem ls_61 : v_ls[61]? = some (1, 100) := rfl
theorem ls_62 : v_ls[62]? = some (1, 100) := rfl
theorem ls_63 : v_ls[63]? = some (2, 100) := rfl
theorem ls_64 : v_ls[64]? = some (0, 10) := rfl
theorem ls_65 : v_ls[65]? = some (1, 200) := rfl
theorem ls_66 : v_ls[66]? = some (1, 200) := rfl
theorem ls_67 : v_ls[67]? = some (1, 200) := rfl
theorem ls_68 : v_ls[68]? = some (1, 200) := rfl
theorem ls_69 : v_ls[69]? = some (1, 200) := rfl
theorem ls_70 : v_ls[70]? = some (1, 200) := rfl
theorem ls_71 : v_ls[71]? = some (0, 6) := rfl
theorem ls_72 : v_ls[72]? = some (1, 30) := rfl
theorem ls_73 : v_ls[73]? = some (1, 30) := rfl
theorem ls_74 : v_ls[74]? = some (1, 30) := rfl
theorem ls_75 : v_ls[75]? = some (1, 30) := rfl
theorem ls_76 : v_ls[76]? = some (1, 480) := rfl
theorem ls_77 : v_ls[77]? = some (6, 4) := rfl
theorem ls_78 : v_ls[78]? = some (1, 4) := rfl
theorem ls_79 : v_ls[79]? = some (0, 12) := rfl
theorem ls_80 : v_ls[80]? = some (1, 24) := rfl
theorem ls_81 : v_ls[81]? = some (1, 24) := rfl
theorem ls_82 : v_ls[82]? = some (1, 24) := rfl
theorem ls_83 : v_ls[83]? = some (1, 24) := rfl
theorem ls_84 : v_ls[84]? = some (1, 24) := rfl
theorem ls_85 : v_ls[85]? = some (1, 24) := rfl
theorem ls_86 : v_ls[86]? = some (1, 24) := rfl
theorem ls_87 : v_ls[87]? = some (1, 24) := rfl
theorem ls_88 : v_ls[88]? = some (1, 480) := rfl
theorem ls_89 : v_ls[89]? = some (1, 480) := rfl
theorem ls_90 : v_ls[90]? = some (1, 480) := rfl
theorem ls_91 : v_ls[91]? = some (1, 480) := rfl
theorem ls_92 : v_ls[92]? = some (1, 20) := rfl
theorem ls_93 : v_ls[93]? = some (1, 20) := rfl
theorem ls_94 : v_ls[94]? = some (1, 24) := rfl
theorem ls_95 : v_ls[95]? = some (1, 24) := rfl
theorem ls_96 : v_ls[96]? = some (1, 24) := rfl
theorem ls_97 : v_ls[97]? = some (1, 24) := rfl
theorem ls_98 : v_ls[98]? = some (1, 24) := rfl
theorem ls_99 : v_ls[99]? = some (1, 24) := rfl
theorem ls_100 : v_ls[100]? = some (1, 24) := rfl
theorem ls_101 : v_ls[101]? = some (1, 8) := rfl
theorem ls_102 : v_ls[102]? = some (1, 8) := rfl
theorem ls_103 : v_ls[103]? = some (1, 8) := rfl
theorem ls_104 : v_ls[104]? = some (1, 8) := rfl
theorem ls_105 : v_ls[105]? = some (1, 8) := rfl
theorem ls_106 : v_ls[106]? = some (1, 24) := rfl
theorem ls_107 : v_ls[107]? = some (3, 400) := rfl
theorem ls_108 : v_ls[108]? = some (1, 3600) := rfl
theorem ls_109 : v_ls[109]? = some (1, 3600) := rfl
theorem ls_110 : v_ls[110]? = some (1, 12) := rfl
theorem ls_111 : v_ls[111]? = some (1, 12) := rfl
theorem ls_112 : v_ls[112]? = some (1, 12) := rfl
theorem ls_113 : v_ls[113]? = some (1, 144) := rfl
theorem ls_114 : v_ls[114]? = some (1, 144) := rfl
theorem ls_115 : v_ls[115]? = some (1, 144) := rfl
theorem ls_116 : v_ls[116]? = some (1, 144) := rfl
theorem ls_117 : v_ls[117]? = some (1, 144) := rfl
theorem ls_118 : v_ls[118]? = some (1, 144) := rfl
theorem ls_119 : v_ls[119]? = some (1, 402) := rfl
theorem ls_120 : v_ls[120]? = some (4, 7) := rfl
theorem ls_121 : v_ls[121]? = some (4, 300) := rfl
theorem ls_122 : v_ls[122]? = some (1, 200) := rfl
theorem ls_123 : v_ls[123]? = some (1, 200) := rfl
theorem ls_124 : v_ls[124]? = some (1, 200) := rfl
theorem ls_125 : v_ls[125]? = some (1, 200) := rfl
theorem ls_126 : v_ls[126]? = some (1, 200) := rfl
theorem ls_127 : v_ls[127]? = some (1, 200) := rfl
theorem ls_128 : v_ls[128]? = some (1, 100) := rfl
theorem ls_129 : v_ls[129]? = some (1, 100) := rfl
theorem ls_130 : v_ls[130]? = some (1, 100) := rfl
theorem ls_131 : v_ls[131]? = some (2, 100) := rfl
theorem ls_132 : v_ls[132]? = some (2, 200) := rfl
theorem ls_133 : v_ls[133]? = some (2, 200) := rfl
theorem ls_134 : v_ls[134]? = some (1, 200) := rfl
theorem ls_135 : v_ls[135]? = some (1, 200) := rfl
theorem ls_136 : v_ls[136]? = some (1, 200) := rfl
theorem ls_137 : v_ls[137]? = some (1, 200) := rfl
theorem ls_138 : v_ls[138]? = some (1, 200) := rfl
theorem ls_139 : v_ls[139]? = some (1, 200) := rfl
theorem ls_140 : v_ls[140]? = some (1, 30) := rfl
theorem ls_141 : v_ls[141]? = some (1, 30) := rfl
theorem ls_142 : v_ls[142]? = some (1, 30) := rfl
theorem ls_143 : v_ls[143]? = some (1, 480) := rfl
theorem ls_144 : v_ls[144]? = some (1, 30) := rfl
theorem ls_145 : v_ls[145]? = some (1, 8000) := rfl
theorem ls_146 : v_ls[146]? = some (1, 4) := rfl
theorem ls_147 : v_ls[147]? = some (1, 4) := rfl
theorem ls_148 : v_ls[148]? = some (1, 4) := rfl
theorem ls_149 : v_ls[149]? = some (2, 4) := rfl
def v_FlS : List (Nat × Nat) := [(0, 4), (1, 480), (1, 480), (1, 480), (1, 480), (1, 20), (1, 20)]
def v_FlP : Nat → Option Nat := fun j => match j with
  | 1 => some 1
  | 2 => some 2
  | 3 => some 3
  | 4 => some 4
  | 5 => some 5
  | 6 => some 6
  | _ => none
def v_Fl (sh : v_S) (P : v_P) (k : Nat) : Prop := (∀ (j : Nat) (q : Nat × Nat), v_FlS[j]? = some q → sh[k + j]? = some q) ∧ ∀ j r : Nat, v_FlP j = some r → P k j = some (k + r)
def v_OrS : List (Nat × Nat) := [(0, 5), (1, 12), (1, 12), (1, 12), (1, 12), (1, 12), (1, 400)]
def v_OrP : Nat → Option Nat := fun j => match j with
  | 4 => some 1
  | 5 => some 2
  | 6 => some 3
  | 7 => some 4
  | 8 => some 5
  | 9 => some 6
  | _ => none
def v_Or (sh : v_S) (P : v_P) (k : Nat) : Prop := (∀ (j : Nat) (q : Nat × Nat), v_OrS[j]? = some q → sh[k + j]? = some q) ∧ ∀ j r : Nat, v_OrP j = some r → P k j = some (k + r)
theorem v_FlL {sh : v_S} {P : v_P} (hL : v_Lay sh P) (k : Nat) (hk : k = 11) : v_Fl sh P k := by
  subst hk
  refine ⟨fun j q hj => ?_, fun j r hj => ?_⟩
  · match j, hj with
    | 0, hj => cases hj; exact hL.1 11 _ rfl
    | 1, hj => cases hj; exact hL.1 12 _ rfl
    | 2, hj => cases hj; exact hL.1 13 _ rfl
    | 3, hj => cases hj; exact hL.1 14 _ rfl
    | 4, hj => cases hj; exact hL.1 15 _ rfl
    | 5, hj => cases hj; exact hL.1 16 _ rfl
    | 6, hj => cases hj; exact hL.1 17 _ rfl
    | j + 7, hj => cases hj
  · match j, hj with
    | 0, hj => cases hj
    | 1, hj => cases hj; exact hL.2 11 1 _ rfl
    | 2, hj => cases hj; exact hL.2 11 2 _ rfl
    | 3, hj => cases hj; exact hL.2 11 3 _ rfl
    | 4, hj => cases hj; exact hL.2 11 4 _ rfl
    | 5, hj => cases hj; exact hL.2 11 5 _ rfl
    | 6, hj => cases hj; exact hL.2 11 6 _ rfl
    | j + 7, hj => cases hj
/-- what the arrays of orders and of marked fleets name -/
def v_PO (sh : v_S) (P : v_P) : Prop := (∀ i q : Nat, P 48 i = some q → v_Or sh P q) ∧ ∀ i q : Nat, P 77 i = some q → v_Fl sh P q
