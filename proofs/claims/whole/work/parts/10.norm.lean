/-! THE LAYOUT behind the constructors: object and array numbers; ProseDates is 0, the reference 177, the law's own row 192 -/
def shpL : List (Nat × Nat) := [(11, 14), (9, 2), (100, 80), (4, 5), (10, 5), (100, 81), (100, 81), (100, 320), (100, 320), (2, 4), (5, 3), (100, 24), (5, 3), (100, 24), (5, 3), (100, 24), (5, 3), (100, 24), (6, 2), (100, 24), (8, 1), (100, 170), (8, 1), (100, 170), (100, 170), (3, 3), (104, 8), (100, 170), (100, 170), (100, 170), (100, 170), (100, 170), (100, 170), (100, 170), (100, 170), (104, 2), (100, 170), (100, 170), (7, 10), (100, 6), (100, 36), (104, 36), (100, 6), (100, 6), (100, 6), (100, 6), (100, 6), (100, 6), (100, 6), (100, 6), (100, 6), (100, 6), (100, 6), (100, 6), (100, 6), (100, 6), (100, 6), (100, 6), (100, 6), (100, 6), (100, 6), (100, 6), (100, 6), (100, 6), (100, 6), (100, 6), (100, 6), (100, 6), (100, 6), (100, 6), (100, 6), (100, 6), (100, 6), (100, 6), (100, 6), (100, 6), (100, 6), (100, 6), (104, 6), (100, 6), (100, 6), (100, 6), (100, 6), (100, 6), (100, 6), (100, 6), (100, 6), (100, 36), (7, 10), (100, 6), (100, 36), (104, 36), (100, 6), (100, 6), (100, 6), (100, 6), (100, 6), (100, 6), (100, 6), (100, 6), (100, 6), (100, 6), (100, 6), (100, 6), (100, 6), (100, 6), (100, 6), (100, 6), (100, 6), (100, 6), (100, 6), (100, 6), (100, 6), (100, 6), (100, 6), (100, 6), (100, 6), (100, 6), (100, 6), (100, 6), (100, 6), (100, 6), (100, 6), (100, 6), (100, 6), (100, 6), (100, 6), (100, 6), (104, 6), (100, 6), (100, 6), (100, 6), (100, 6), (100, 6), (100, 6), (100, 6), (100, 6), (100, 36), (1, 4), (104, 36), (100, 36), (100, 36), (100, 36), (100, 36), (100, 36), (100, 36), (100, 36), (100, 36), (100, 36), (100, 36), (100, 36), (100, 36), (100, 36), (100, 36), (100, 36), (100, 36), (100, 36), (100, 36), (100, 36), (100, 36), (100, 36), (100, 36), (100, 36), (100, 36), (100, 36), (100, 36), (100, 36), (100, 36), (100, 36), (100, 36), (100, 36), (100, 36), (100, 36), (100, 36), (100, 36), (100, 36), (100, 6), (12, 31), (100, 218), (101, 80), (103, 64), (100, 4096), (100, 6), (100, 36), (100, 6), (100, 6), (100, 218), (100, 1744), (100, 218), (100, 320), (100, 436), (102, 2), (103, 1)]
def shpS (a : Nat) : Nat × Nat := shpL.getD a (100, 0)
def g_out (a : Nat) : Nat := match a with
  | 26 => 8
  | 35 => 2
  | 41 => 36
  | 78 => 6
  | 91 => 36
  | 128 => 6
  | 139 => 36
  | _ => 0
def g_rfT : List (Nat × List (Option Nat)) := [(0, [some 1, some 3, some 9, some 18, some 20, some 22, some 24, some 25, some 35, none, some 38, some 88, some 138, none]), (1, [some 2, none]), (3, [some 4, some 7, none, some 8, none]), (4, [some 5, some 6, none, none, none]), (9, [some 10, some 12, some 14, some 16]), (10, [some 11, none, none]), (12, [some 13, none, none]), (14, [some 15, none, none]), (16, [some 17, none, none]), (18, [some 19, none]), (20, [some 21]), (22, [some 23]), (25, [some 26, none, none]), (38, [some 39, none, some 40, some 41, some 78, some 85, some 86, some 87, none, none]), (88, [some 89, none, some 90, some 91, some 128, some 135, some 136, some 137, none, none]), (138, [some 139, some 176, none, none]), (177, [some 178, some 179, none, some 180, none, none, none, none, none, none, none, none, none, some 181, none, none, some 182, none, none, some 183, some 184, none, some 185, some 186, some 187, some 188, none, some 189, none, some 190, some 191])]
def g_rf (a j : Nat) : Option Nat := ((g_rfT.lookup a).getD []).getD j none
abbrev gT : Type := Nat × Nat × Nat
abbrev gS : Type := (Nat → Nat → Int32) × (Nat → Nat → Int64) × gT
def mrS (t : gT) (a j : Nat) : Option Nat := if a = 9 then (match j with | 0 => some 10 | 1 => some t.1 | 2 => some t.2.1 | 3 => some t.2.2 | _ => none) else if j < g_out a then some (a + 1 + j) else g_rf a j
def nrm (s : gS) : gMem := (193, shpS, mrS s.2.2, s.1, s.2.1)
def gi (s : gS) (a i : Nat) : Int32 := s.1 a i
def wi (s : gS) (a i : Nat) (v : Int32) : gS := (g_up s.1 a i v, s.2)
def gl (s : gS) (a i : Nat) : Int64 := s.2.1 a i
def wl (s : gS) (a i : Nat) (v : Int64) : gS := (s.1, g_up s.2.1 a i v, s.2.2)
def cpI (s : gS) (src sp dst dp n : Nat) : gS := ((fun x => if x = dst then va_cpy (s.1 src) (s.1 dst) sp dp n else s.1 x), s.2)
def gt1 (s : gS) : Nat := s.2.2.1
def gt2 (s : gS) : Nat := s.2.2.2.1
def gt3 (s : gS) : Nat := s.2.2.2.2
def wt1 (s : gS) (v : Nat) : gS := (s.1, s.2.1, v, s.2.2.2)
def wt2 (s : gS) (v : Nat) : gS := (s.1, s.2.1, s.2.2.1, v, s.2.2.2.2)
def wt3 (s : gS) (v : Nat) : gS := (s.1, s.2.1, s.2.2.1, s.2.2.2.1, v)
abbrev ix (i : Int32) : Nat := i.toNatClampNeg
def jrem (x y : Int32) : Int32 := x - x / y * y
def jmax (x y : Int32) : Int32 := if x < y then y else x
def jmin (x y : Int32) : Int32 := if y < x then y else x
def jshl (x y : Int32) : Int32 := x <<< (y &&& 31)
def jshr (x y : Int32) : Int32 := x >>> (y &&& 31)
def jushr (x y : Int32) : Int32 := (x.toUInt32 >>> (y.toUInt32 &&& Int32.toUInt32 31)).toInt32
def jbyte (x : Int32) : Int32 := x.toInt8.toInt32
def jlcmp (x y : Int64) : Int32 := if x < y then -1 else if x = y then 0 else 1
theorem sh_0 : shpS 0 = (11, 14) := rfl
theorem sh_1 : shpS 1 = (9, 2) := rfl
theorem sh_2 : shpS 2 = (100, 80) := rfl
theorem sh_3 : shpS 3 = (4, 5) := rfl
theorem sh_4 : shpS 4 = (10, 5) := rfl
theorem sh_5 : shpS 5 = (100, 81) := rfl
theorem sh_6 : shpS 6 = (100, 81) := rfl
theorem sh_7 : shpS 7 = (100, 320) := rfl
theorem sh_8 : shpS 8 = (100, 320) := rfl
theorem sh_9 : shpS 9 = (2, 4) := rfl
theorem sh_10 : shpS 10 = (5, 3) := rfl
theorem sh_11 : shpS 11 = (100, 24) := rfl
theorem sh_12 : shpS 12 = (5, 3) := rfl
theorem sh_13 : shpS 13 = (100, 24) := rfl
theorem sh_14 : shpS 14 = (5, 3) := rfl
theorem sh_15 : shpS 15 = (100, 24) := rfl
theorem sh_16 : shpS 16 = (5, 3) := rfl
theorem sh_17 : shpS 17 = (100, 24) := rfl
theorem sh_18 : shpS 18 = (6, 2) := rfl
theorem sh_19 : shpS 19 = (100, 24) := rfl
theorem sh_20 : shpS 20 = (8, 1) := rfl
theorem sh_21 : shpS 21 = (100, 170) := rfl
theorem sh_22 : shpS 22 = (8, 1) := rfl
theorem sh_23 : shpS 23 = (100, 170) := rfl
theorem sh_24 : shpS 24 = (100, 170) := rfl
theorem sh_25 : shpS 25 = (3, 3) := rfl
theorem sh_26 : shpS 26 = (104, 8) := rfl
theorem sh_27 : shpS 27 = (100, 170) := rfl
theorem sh_28 : shpS 28 = (100, 170) := rfl
theorem sh_29 : shpS 29 = (100, 170) := rfl
theorem sh_30 : shpS 30 = (100, 170) := rfl
theorem sh_31 : shpS 31 = (100, 170) := rfl
theorem sh_32 : shpS 32 = (100, 170) := rfl
theorem sh_33 : shpS 33 = (100, 170) := rfl
theorem sh_34 : shpS 34 = (100, 170) := rfl
theorem sh_35 : shpS 35 = (104, 2) := rfl
theorem sh_36 : shpS 36 = (100, 170) := rfl
theorem sh_37 : shpS 37 = (100, 170) := rfl
theorem sh_38 : shpS 38 = (7, 10) := rfl
theorem sh_39 : shpS 39 = (100, 6) := rfl
theorem sh_40 : shpS 40 = (100, 36) := rfl
theorem sh_41 : shpS 41 = (104, 36) := rfl
theorem sh_42 : shpS 42 = (100, 6) := rfl
theorem sh_43 : shpS 43 = (100, 6) := rfl
theorem sh_44 : shpS 44 = (100, 6) := rfl
theorem sh_45 : shpS 45 = (100, 6) := rfl
theorem sh_46 : shpS 46 = (100, 6) := rfl
theorem sh_47 : shpS 47 = (100, 6) := rfl
theorem sh_48 : shpS 48 = (100, 6) := rfl
theorem sh_49 : shpS 49 = (100, 6) := rfl
theorem sh_50 : shpS 50 = (100, 6) := rfl
theorem sh_51 : shpS 51 = (100, 6) := rfl
theorem sh_52 : shpS 52 = (100, 6) := rfl
theorem sh_53 : shpS 53 = (100, 6) := rfl
theorem sh_54 : shpS 54 = (100, 6) := rfl
theorem sh_55 : shpS 55 = (100, 6) := rfl
theorem sh_56 : shpS 56 = (100, 6) := rfl
theorem sh_57 : shpS 57 = (100, 6) := rfl
theorem sh_58 : shpS 58 = (100, 6) := rfl
theorem sh_59 : shpS 59 = (100, 6) := rfl
theorem sh_60 : shpS 60 = (100, 6) := rfl
theorem sh_61 : shpS 61 = (100, 6) := rfl
theorem sh_62 : shpS 62 = (100, 6) := rfl
theorem sh_63 : shpS 63 = (100, 6) := rfl
theorem sh_64 : shpS 64 = (100, 6) := rfl
theorem sh_65 : shpS 65 = (100, 6) := rfl
theorem sh_66 : shpS 66 = (100, 6) := rfl
theorem sh_67 : shpS 67 = (100, 6) := rfl
theorem sh_68 : shpS 68 = (100, 6) := rfl
theorem sh_69 : shpS 69 = (100, 6) := rfl
theorem sh_70 : shpS 70 = (100, 6) := rfl
theorem sh_71 : shpS 71 = (100, 6) := rfl
theorem sh_72 : shpS 72 = (100, 6) := rfl
theorem sh_73 : shpS 73 = (100, 6) := rfl
theorem sh_74 : shpS 74 = (100, 6) := rfl
theorem sh_75 : shpS 75 = (100, 6) := rfl
theorem sh_76 : shpS 76 = (100, 6) := rfl
theorem sh_77 : shpS 77 = (100, 6) := rfl
theorem sh_78 : shpS 78 = (104, 6) := rfl
theorem sh_79 : shpS 79 = (100, 6) := rfl
theorem sh_80 : shpS 80 = (100, 6) := rfl
theorem sh_81 : shpS 81 = (100, 6) := rfl
theorem sh_82 : shpS 82 = (100, 6) := rfl
theorem sh_83 : shpS 83 = (100, 6) := rfl
theorem sh_84 : shpS 84 = (100, 6) := rfl
theorem sh_85 : shpS 85 = (100, 6) := rfl
theorem sh_86 : shpS 86 = (100, 6) := rfl
theorem sh_87 : shpS 87 = (100, 36) := rfl
theorem sh_88 : shpS 88 = (7, 10) := rfl
theorem sh_89 : shpS 89 = (100, 6) := rfl
theorem sh_90 : shpS 90 = (100, 36) := rfl
theorem sh_91 : shpS 91 = (104, 36) := rfl
theorem sh_92 : shpS 92 = (100, 6) := rfl
theorem sh_93 : shpS 93 = (100, 6) := rfl
theorem sh_94 : shpS 94 = (100, 6) := rfl
theorem sh_95 : shpS 95 = (100, 6) := rfl
theorem sh_96 : shpS 96 = (100, 6) := rfl
theorem sh_97 : shpS 97 = (100, 6) := rfl
theorem sh_98 : shpS 98 = (100, 6) := rfl
theorem sh_99 : shpS 99 = (100, 6) := rfl
theorem sh_100 : shpS 100 = (100, 6) := rfl
theorem sh_101 : shpS 101 = (100, 6) := rfl
theorem sh_102 : shpS 102 = (100, 6) := rfl
theorem sh_103 : shpS 103 = (100, 6) := rfl
theorem sh_104 : shpS 104 = (100, 6) := rfl
theorem sh_105 : shpS 105 = (100, 6) := rfl
theorem sh_106 : shpS 106 = (100, 6) := rfl
theorem sh_107 : shpS 107 = (100, 6) := rfl
theorem sh_108 : shpS 108 = (100, 6) := rfl
theorem sh_109 : shpS 109 = (100, 6) := rfl
theorem sh_110 : shpS 110 = (100, 6) := rfl
theorem sh_111 : shpS 111 = (100, 6) := rfl
theorem sh_112 : shpS 112 = (100, 6) := rfl
theorem sh_113 : shpS 113 = (100, 6) := rfl
theorem sh_114 : shpS 114 = (100, 6) := rfl
theorem sh_115 : shpS 115 = (100, 6) := rfl
theorem sh_116 : shpS 116 = (100, 6) := rfl
theorem sh_117 : shpS 117 = (100, 6) := rfl
theorem sh_118 : shpS 118 = (100, 6) := rfl
theorem sh_119 : shpS 119 = (100, 6) := rfl
theorem sh_120 : shpS 120 = (100, 6) := rfl
theorem sh_121 : shpS 121 = (100, 6) := rfl
theorem sh_122 : shpS 122 = (100, 6) := rfl
theorem sh_123 : shpS 123 = (100, 6) := rfl
theorem sh_124 : shpS 124 = (100, 6) := rfl
theorem sh_125 : shpS 125 = (100, 6) := rfl
theorem sh_126 : shpS 126 = (100, 6) := rfl
theorem sh_127 : shpS 127 = (100, 6) := rfl
theorem sh_128 : shpS 128 = (104, 6) := rfl
theorem sh_129 : shpS 129 = (100, 6) := rfl
theorem sh_130 : shpS 130 = (100, 6) := rfl
theorem sh_131 : shpS 131 = (100, 6) := rfl
theorem sh_132 : shpS 132 = (100, 6) := rfl
theorem sh_133 : shpS 133 = (100, 6) := rfl
theorem sh_134 : shpS 134 = (100, 6) := rfl
theorem sh_135 : shpS 135 = (100, 6) := rfl
theorem sh_136 : shpS 136 = (100, 6) := rfl
theorem sh_137 : shpS 137 = (100, 36) := rfl
theorem sh_138 : shpS 138 = (1, 4) := rfl
theorem sh_139 : shpS 139 = (104, 36) := rfl
theorem sh_140 : shpS 140 = (100, 36) := rfl
theorem sh_141 : shpS 141 = (100, 36) := rfl
theorem sh_142 : shpS 142 = (100, 36) := rfl
theorem sh_143 : shpS 143 = (100, 36) := rfl
theorem sh_144 : shpS 144 = (100, 36) := rfl
theorem sh_145 : shpS 145 = (100, 36) := rfl
theorem sh_146 : shpS 146 = (100, 36) := rfl
theorem sh_147 : shpS 147 = (100, 36) := rfl
theorem sh_148 : shpS 148 = (100, 36) := rfl
theorem sh_149 : shpS 149 = (100, 36) := rfl
theorem sh_150 : shpS 150 = (100, 36) := rfl
theorem sh_151 : shpS 151 = (100, 36) := rfl
theorem sh_152 : shpS 152 = (100, 36) := rfl
theorem sh_153 : shpS 153 = (100, 36) := rfl
theorem sh_154 : shpS 154 = (100, 36) := rfl
theorem sh_155 : shpS 155 = (100, 36) := rfl
theorem sh_156 : shpS 156 = (100, 36) := rfl
theorem sh_157 : shpS 157 = (100, 36) := rfl
theorem sh_158 : shpS 158 = (100, 36) := rfl
theorem sh_159 : shpS 159 = (100, 36) := rfl
theorem sh_160 : shpS 160 = (100, 36) := rfl
theorem sh_161 : shpS 161 = (100, 36) := rfl
theorem sh_162 : shpS 162 = (100, 36) := rfl
theorem sh_163 : shpS 163 = (100, 36) := rfl
theorem sh_164 : shpS 164 = (100, 36) := rfl
theorem sh_165 : shpS 165 = (100, 36) := rfl
theorem sh_166 : shpS 166 = (100, 36) := rfl
theorem sh_167 : shpS 167 = (100, 36) := rfl
theorem sh_168 : shpS 168 = (100, 36) := rfl
theorem sh_169 : shpS 169 = (100, 36) := rfl
theorem sh_170 : shpS 170 = (100, 36) := rfl
theorem sh_171 : shpS 171 = (100, 36) := rfl
theorem sh_172 : shpS 172 = (100, 36) := rfl
theorem sh_173 : shpS 173 = (100, 36) := rfl
theorem sh_174 : shpS 174 = (100, 36) := rfl
theorem sh_175 : shpS 175 = (100, 36) := rfl
theorem sh_176 : shpS 176 = (100, 6) := rfl
theorem sh_177 : shpS 177 = (12, 31) := rfl
theorem sh_178 : shpS 178 = (100, 218) := rfl
theorem sh_179 : shpS 179 = (101, 80) := rfl
theorem sh_180 : shpS 180 = (103, 64) := rfl
theorem sh_181 : shpS 181 = (100, 4096) := rfl
theorem sh_182 : shpS 182 = (100, 6) := rfl
theorem sh_183 : shpS 183 = (100, 36) := rfl
theorem sh_184 : shpS 184 = (100, 6) := rfl
theorem sh_185 : shpS 185 = (100, 6) := rfl
theorem sh_186 : shpS 186 = (100, 218) := rfl
theorem sh_187 : shpS 187 = (100, 1744) := rfl
theorem sh_188 : shpS 188 = (100, 218) := rfl
theorem sh_189 : shpS 189 = (100, 320) := rfl
theorem sh_190 : shpS 190 = (100, 436) := rfl
theorem sh_191 : shpS 191 = (102, 2) := rfl
theorem sh_192 : shpS 192 = (103, 1) := rfl
def isRd (a : Nat) : Prop := a = 10 ∨ a = 12 ∨ a = 14 ∨ a = 16
theorem isRd_10 : isRd 10 := by unfold isRd; omega
theorem isRd_12 : isRd 12 := by unfold isRd; omega
theorem isRd_14 : isRd 14 := by unfold isRd; omega
theorem isRd_16 : isRd 16 := by unfold isRd; omega
theorem lt_Rd {a : Nat} (h : isRd a) : a < 193 := by unfold isRd at h; omega
theorem sh_Rd {a : Nat} (h : isRd a) : shpS a = (5, 3) := by rcases h with rfl | rfl | rfl | rfl <;> rfl
theorem rf_Rd_0 {a : Nat} {t : gT} (h : isRd a) : mrS t a 0 = some (a + 1) := by rcases h with rfl | rfl | rfl | rfl <;> rfl
theorem lt_Rd_1 {a : Nat} (h : isRd a) : a + 1 < 193 := by unfold isRd at h; omega
theorem sh_Rd_1 {a : Nat} (h : isRd a) : shpS (a + 1) = (100, 24) := by rcases h with rfl | rfl | rfl | rfl <;> rfl
def isSt (a : Nat) : Prop := a = 20 ∨ a = 22
theorem isSt_20 : isSt 20 := by unfold isSt; omega
theorem isSt_22 : isSt 22 := by unfold isSt; omega
theorem lt_St {a : Nat} (h : isSt a) : a < 193 := by unfold isSt at h; omega
theorem sh_St {a : Nat} (h : isSt a) : shpS a = (8, 1) := by rcases h with rfl | rfl <;> rfl
theorem rf_St_0 {a : Nat} {t : gT} (h : isSt a) : mrS t a 0 = some (a + 1) := by rcases h with rfl | rfl <;> rfl
theorem lt_St_1 {a : Nat} (h : isSt a) : a + 1 < 193 := by unfold isSt at h; omega
theorem sh_St_1 {a : Nat} (h : isSt a) : shpS (a + 1) = (100, 170) := by rcases h with rfl | rfl <;> rfl
def isSo (a : Nat) : Prop := a = 38 ∨ a = 88
theorem isSo_38 : isSo 38 := by unfold isSo; omega
theorem isSo_88 : isSo 88 := by unfold isSo; omega
theorem lt_So {a : Nat} (h : isSo a) : a < 193 := by unfold isSo at h; omega
theorem sh_So {a : Nat} (h : isSo a) : shpS a = (7, 10) := by rcases h with rfl | rfl <;> rfl
theorem rf_So_0 {a : Nat} {t : gT} (h : isSo a) : mrS t a 0 = some (a + 1) := by rcases h with rfl | rfl <;> rfl
theorem lt_So_1 {a : Nat} (h : isSo a) : a + 1 < 193 := by unfold isSo at h; omega
theorem sh_So_1 {a : Nat} (h : isSo a) : shpS (a + 1) = (100, 6) := by rcases h with rfl | rfl <;> rfl
theorem rf_So_2 {a : Nat} {t : gT} (h : isSo a) : mrS t a 2 = some (a + 2) := by rcases h with rfl | rfl <;> rfl
theorem lt_So_2 {a : Nat} (h : isSo a) : a + 2 < 193 := by unfold isSo at h; omega
theorem sh_So_2 {a : Nat} (h : isSo a) : shpS (a + 2) = (100, 36) := by rcases h with rfl | rfl <;> rfl
theorem rf_So_3 {a : Nat} {t : gT} (h : isSo a) : mrS t a 3 = some (a + 3) := by rcases h with rfl | rfl <;> rfl
theorem lt_So_3 {a : Nat} (h : isSo a) : a + 3 < 193 := by unfold isSo at h; omega
theorem sh_So_3 {a : Nat} (h : isSo a) : shpS (a + 3) = (104, 36) := by rcases h with rfl | rfl <;> rfl
theorem ro_So_3 {a j : Nat} {t : gT} (h : isSo a) (hj : j < 36) : mrS t (a + 3) j = some (a + 3 + 1 + j) := by rcases h with rfl | rfl <;> simp [mrS, g_out, hj]
theorem lr_So_3 {a j : Nat} (h : isSo a) (hj : j < 36) : a + 3 + 1 + j < 193 := by unfold isSo at h; omega
theorem sr_So_3 {a j : Nat} (h : isSo a) (hj : j < 36) : shpS (a + 3 + 1 + j) = (100, 6) := by
  have e : ∀ a, a ∈ [38, 88] → ∀ j, j < 36 → shpS (a + 3 + 1 + j) = (100, 6) := by decide
  exact e a (by unfold isSo at h; simp; omega) j hj
theorem rf_So_4 {a : Nat} {t : gT} (h : isSo a) : mrS t a 4 = some (a + 40) := by rcases h with rfl | rfl <;> rfl
theorem lt_So_40 {a : Nat} (h : isSo a) : a + 40 < 193 := by unfold isSo at h; omega
theorem sh_So_40 {a : Nat} (h : isSo a) : shpS (a + 40) = (104, 6) := by rcases h with rfl | rfl <;> rfl
theorem ro_So_40 {a j : Nat} {t : gT} (h : isSo a) (hj : j < 6) : mrS t (a + 40) j = some (a + 40 + 1 + j) := by rcases h with rfl | rfl <;> simp [mrS, g_out, hj]
theorem lr_So_40 {a j : Nat} (h : isSo a) (hj : j < 6) : a + 40 + 1 + j < 193 := by unfold isSo at h; omega
theorem sr_So_40 {a j : Nat} (h : isSo a) (hj : j < 6) : shpS (a + 40 + 1 + j) = (100, 6) := by
  have e : ∀ a, a ∈ [38, 88] → ∀ j, j < 6 → shpS (a + 40 + 1 + j) = (100, 6) := by decide
  exact e a (by unfold isSo at h; simp; omega) j hj
theorem rf_So_5 {a : Nat} {t : gT} (h : isSo a) : mrS t a 5 = some (a + 47) := by rcases h with rfl | rfl <;> rfl
theorem lt_So_47 {a : Nat} (h : isSo a) : a + 47 < 193 := by unfold isSo at h; omega
theorem sh_So_47 {a : Nat} (h : isSo a) : shpS (a + 47) = (100, 6) := by rcases h with rfl | rfl <;> rfl
theorem rf_So_6 {a : Nat} {t : gT} (h : isSo a) : mrS t a 6 = some (a + 48) := by rcases h with rfl | rfl <;> rfl
theorem lt_So_48 {a : Nat} (h : isSo a) : a + 48 < 193 := by unfold isSo at h; omega
theorem sh_So_48 {a : Nat} (h : isSo a) : shpS (a + 48) = (100, 6) := by rcases h with rfl | rfl <;> rfl
theorem rf_So_7 {a : Nat} {t : gT} (h : isSo a) : mrS t a 7 = some (a + 49) := by rcases h with rfl | rfl <;> rfl
theorem lt_So_49 {a : Nat} (h : isSo a) : a + 49 < 193 := by unfold isSo at h; omega
theorem sh_So_49 {a : Nat} (h : isSo a) : shpS (a + 49) = (100, 36) := by rcases h with rfl | rfl <;> rfl
theorem ro_26 {j : Nat} {t : gT} (hj : j < 8) : mrS t 26 j = some (26 + 1 + j) := by simp [mrS, g_out, hj]
theorem lr_26 {j : Nat} (hj : j < 8) : 26 + 1 + j < 193 := by omega
theorem sr_26 {j : Nat} (hj : j < 8) : shpS (26 + 1 + j) = (100, 170) := by
  have e : ∀ j, j < 8 → shpS (26 + 1 + j) = (100, 170) := by decide
  exact e j hj
theorem ro_35 {j : Nat} {t : gT} (hj : j < 2) : mrS t 35 j = some (35 + 1 + j) := by simp [mrS, g_out, hj]
theorem lr_35 {j : Nat} (hj : j < 2) : 35 + 1 + j < 193 := by omega
theorem sr_35 {j : Nat} (hj : j < 2) : shpS (35 + 1 + j) = (100, 170) := by
  have e : ∀ j, j < 2 → shpS (35 + 1 + j) = (100, 170) := by decide
  exact e j hj
theorem ro_41 {j : Nat} {t : gT} (hj : j < 36) : mrS t 41 j = some (41 + 1 + j) := by simp [mrS, g_out, hj]
theorem lr_41 {j : Nat} (hj : j < 36) : 41 + 1 + j < 193 := by omega
theorem sr_41 {j : Nat} (hj : j < 36) : shpS (41 + 1 + j) = (100, 6) := by
  have e : ∀ j, j < 36 → shpS (41 + 1 + j) = (100, 6) := by decide
  exact e j hj
theorem ro_78 {j : Nat} {t : gT} (hj : j < 6) : mrS t 78 j = some (78 + 1 + j) := by simp [mrS, g_out, hj]
theorem lr_78 {j : Nat} (hj : j < 6) : 78 + 1 + j < 193 := by omega
theorem sr_78 {j : Nat} (hj : j < 6) : shpS (78 + 1 + j) = (100, 6) := by
  have e : ∀ j, j < 6 → shpS (78 + 1 + j) = (100, 6) := by decide
  exact e j hj
theorem ro_91 {j : Nat} {t : gT} (hj : j < 36) : mrS t 91 j = some (91 + 1 + j) := by simp [mrS, g_out, hj]
theorem lr_91 {j : Nat} (hj : j < 36) : 91 + 1 + j < 193 := by omega
theorem sr_91 {j : Nat} (hj : j < 36) : shpS (91 + 1 + j) = (100, 6) := by
  have e : ∀ j, j < 36 → shpS (91 + 1 + j) = (100, 6) := by decide
  exact e j hj
theorem ro_128 {j : Nat} {t : gT} (hj : j < 6) : mrS t 128 j = some (128 + 1 + j) := by simp [mrS, g_out, hj]
theorem lr_128 {j : Nat} (hj : j < 6) : 128 + 1 + j < 193 := by omega
theorem sr_128 {j : Nat} (hj : j < 6) : shpS (128 + 1 + j) = (100, 6) := by
  have e : ∀ j, j < 6 → shpS (128 + 1 + j) = (100, 6) := by decide
  exact e j hj
theorem ro_139 {j : Nat} {t : gT} (hj : j < 36) : mrS t 139 j = some (139 + 1 + j) := by simp [mrS, g_out, hj]
theorem lr_139 {j : Nat} (hj : j < 36) : 139 + 1 + j < 193 := by omega
theorem sr_139 {j : Nat} (hj : j < 36) : shpS (139 + 1 + j) = (100, 36) := by
  have e : ∀ j, j < 36 → shpS (139 + 1 + j) = (100, 36) := by decide
  exact e j hj
def isA170 (a : Nat) : Prop := a ∈ [21, 23, 24, 27, 28, 29, 30, 31, 32, 33, 34, 36, 37]
theorem lt_A170 {a : Nat} (h : isA170 a) : a < 193 := by
  have e : ∀ a, a ∈ [21, 23, 24, 27, 28, 29, 30, 31, 32, 33, 34, 36, 37] → a < 193 := by decide
  exact e a h
theorem sh_A170 {a : Nat} (h : isA170 a) : shpS a = (100, 170) := by
  have e : ∀ a, a ∈ [21, 23, 24, 27, 28, 29, 30, 31, 32, 33, 34, 36, 37] → shpS a = (100, 170) := by decide
  exact e a h
def isA6 (a : Nat) : Prop := a ∈ [184, 185]
theorem lt_A6 {a : Nat} (h : isA6 a) : a < 193 := by
  have e : ∀ a, a ∈ [184, 185] → a < 193 := by decide
  exact e a h
theorem sh_A6 {a : Nat} (h : isA6 a) : shpS a = (100, 6) := by
  have e : ∀ a, a ∈ [184, 185] → shpS a = (100, 6) := by decide
  exact e a h
def q_i (Q : Int32 → gS → Prop) : Option Value → gMem → Prop := fun v M => ∃ (r : Int32) (s : gS), v = some (.int r) ∧ M = nrm s ∧ Q r s
def q_l (Q : Int64 → gS → Prop) : Option Value → gMem → Prop := fun v M => ∃ (r : Int64) (s : gS), v = some (.long r) ∧ M = nrm s ∧ Q r s
def q_v (Q : gS → Prop) : Option Value → gMem → Prop := fun v M => ∃ s : gS, v = none ∧ M = nrm s ∧ Q s
def q_a (a : Nat) (Q : gS → Prop) : Option Value → gMem → Prop := fun v M => ∃ s : gS, v = some (.ref a) ∧ M = nrm s ∧ Q s
section NORM
variable {l : Launch} {mt mt' : gMt} {R : Room} {X : gX} {pc : Nat} {L L' : List (Option Value)} {S S0 : List Value} {s : gS} {k n : Nat} {Z : State → Prop} {mc ms : Nat}
/-- no long ahead -/
theorem n_irem {x y : Int32} {M : gMem} (hd : decode mt.2.1 pc = .ok (.irem, 1)) (hy : ¬ y = 0) (kk : Gw l mt R X (pc + 1) L (.int (jrem x y) :: S) M k n Z) : Gw l mt R X pc L (.int y :: .int x :: S) M k n Z := r_irem hd hy kk
theorem n_ishl {x y : Int32} {M : gMem} (hd : decode mt.2.1 pc = .ok (.ishl, 1)) (kk : Gw l mt R X (pc + 1) L (.int (jshl x y) :: S) M k n Z) : Gw l mt R X pc L (.int y :: .int x :: S) M k n Z := r_ishl hd kk
theorem n_ishr {x y : Int32} {M : gMem} (hd : decode mt.2.1 pc = .ok (.ishr, 1)) (kk : Gw l mt R X (pc + 1) L (.int (jshr x y) :: S) M k n Z) : Gw l mt R X pc L (.int y :: .int x :: S) M k n Z := r_ishr hd kk
theorem n_iushr {x y : Int32} {M : gMem} (hd : decode mt.2.1 pc = .ok (.iushr, 1)) (kk : Gw l mt R X (pc + 1) L (.int (jushr x y) :: S) M k n Z) : Gw l mt R X pc L (.int y :: .int x :: S) M k n Z := r_iushr hd kk
theorem n_i2b {x : Int32} {M : gMem} (hd : decode mt.2.1 pc = .ok (.i2b, 1)) (kk : Gw l mt R X (pc + 1) L (.int (jbyte x) :: S) M k n Z) : Gw l mt R X pc L (.int x :: S) M k n Z := r_i2b hd kk
theorem n_iinc {i : Nat} {z : Int} {x w : Int32} {M : gMem} (hd : decode mt.2.1 pc = .ok (.iinc i z, 3)) (hx : L[i]? = some (some (.int x))) (hw : Int32.ofInt z = w) (hL : L.set i (some (.int (x + w))) = L') (hi : i < mt.2.2.1) (hn : g_nl L i = true) (kk : Gw l mt R X (pc + 3) L' S M k n Z) : Gw l mt R X pc L S M k n Z := r_iinc hd hx (by rw [hw]) hL hi hn kk
theorem n_getI {idx ci j a nf : Nat} (hd : decode mt.2.1 pc = .ok (.getfield idx, 3)) (hf : g_fl mt.1.cls idx ci j) (ha : a < 193) (hs : shpS a = (ci, nf)) (hnf : (g_cl[ci]?).map (fun q => q.2.2) = some nf) (hr : g_fr ci j = false) (kk : Gw l mt R X (pc + 3) L (.int (gi s a j) :: S) (nrm s) k n Z) : Gw l mt R X pc L (.ref a :: S) (nrm s) k n Z := r_getI hd hf ha hs hnf hr kk
theorem n_getR {idx ci j a nf q : Nat} (hd : decode mt.2.1 pc = .ok (.getfield idx, 3)) (hf : g_fl mt.1.cls idx ci j) (ha : a < 193) (hs : shpS a = (ci, nf)) (hnf : (g_cl[ci]?).map (fun q => q.2.2) = some nf) (hr : g_fr ci j = true) (hq : mrS s.2.2 a j = some q) (kk : Gw l mt R X (pc + 3) L (.ref q :: S) (nrm s) k n Z) : Gw l mt R X pc L (.ref a :: S) (nrm s) k n Z := r_getR hd hf ha hs hnf hr hq kk
theorem n_putI {idx ci j a nf : Nat} {x : Int32} (hd : decode mt.2.1 pc = .ok (.putfield idx, 3)) (hf : g_fl mt.1.cls idx ci j) (hw : g_fw ci j false .int) (ha : a < 193) (hs : shpS a = (ci, nf)) (hnf : (g_cl[ci]?).map (fun q => q.2.2) = some nf) (hr : g_fr ci j = false) (kk : Gw l mt R X (pc + 3) L S (nrm (wi s a j x)) k n Z) : Gw l mt R X pc L (.int x :: .ref a :: S) (nrm s) k n Z := r_putI hd hf hw ha hs hnf hr kk
theorem n_putZ {idx ci j a nf : Nat} {x : Int32} (hd : decode mt.2.1 pc = .ok (.putfield idx, 3)) (hf : g_fl mt.1.cls idx ci j) (hw : g_fw ci j false .boolean) (ha : a < 193) (hs : shpS a = (ci, nf)) (hnf : (g_cl[ci]?).map (fun q => q.2.2) = some nf) (hr : g_fr ci j = false) (hx : x = 0 ∨ x = 1) (kk : Gw l mt R X (pc + 3) L S (nrm (wi s a j x)) k n Z) : Gw l mt R X pc L (.int x :: .ref a :: S) (nrm s) k n Z := r_putZ hd hf hw ha hs hnf hr hx kk
theorem n_iald {a len j : Nat} {i : Int32} (hd : decode mt.2.1 pc = .ok (.iaload, 1)) (ha : a < 193) (hs : shpS a = (100, len)) (hi : vp_in i len) (hj : ix i = j) (kk : Gw l mt R X (pc + 1) L (.int (gi s a j) :: S) (nrm s) k n Z) : Gw l mt R X pc L (.int i :: .ref a :: S) (nrm s) k n Z := by subst hj; exact r_iald hd ha hs hi kk
theorem n_bald {a len j : Nat} {i : Int32} (hd : decode mt.2.1 pc = .ok (.baload, 1)) (ha : a < 193) (hs : shpS a = (101, len)) (hi : vp_in i len) (hj : ix i = j) (kk : Gw l mt R X (pc + 1) L (.int (gi s a j) :: S) (nrm s) k n Z) : Gw l mt R X pc L (.int i :: .ref a :: S) (nrm s) k n Z := by subst hj; exact r_bald hd ha hs hi kk
theorem n_zald {a len j : Nat} {i : Int32} (hd : decode mt.2.1 pc = .ok (.baload, 1)) (ha : a < 193) (hs : shpS a = (102, len)) (hi : vp_in i len) (hj : ix i = j) (kk : Gw l mt R X (pc + 1) L (.int (gi s a j) :: S) (nrm s) k n Z) : Gw l mt R X pc L (.int i :: .ref a :: S) (nrm s) k n Z := by subst hj; exact r_zald hd ha hs hi kk
theorem n_lald {a len j : Nat} {i : Int32} (hd : decode mt.2.1 pc = .ok (.laload, 1)) (ha : a < 193) (hs : shpS a = (103, len)) (hi : vp_in i len) (hj : ix i = j) (kk : Gw l mt R X (pc + 1) L (.long (gl s a j) :: S) (nrm s) k n Z) : Gw l mt R X pc L (.int i :: .ref a :: S) (nrm s) k n Z := by subst hj; exact r_lald hd ha hs hi kk
theorem n_aald {a len j q : Nat} {i : Int32} (hd : decode mt.2.1 pc = .ok (.aaload, 1)) (ha : a < 193) (hs : shpS a = (104, len)) (hi : vp_in i len) (hj : ix i = j) (hq : mrS s.2.2 a j = some q) (kk : Gw l mt R X (pc + 1) L (.ref q :: S) (nrm s) k n Z) : Gw l mt R X pc L (.int i :: .ref a :: S) (nrm s) k n Z := by subst hj; exact r_aald hd ha hs hi hq kk
theorem n_iast {a len j : Nat} {i x : Int32} (hd : decode mt.2.1 pc = .ok (.iastore, 1)) (ha : a < 193) (hs : shpS a = (100, len)) (hi : vp_in i len) (hj : ix i = j) (kk : Gw l mt R X (pc + 1) L S (nrm (wi s a j x)) k n Z) : Gw l mt R X pc L (.int x :: .int i :: .ref a :: S) (nrm s) k n Z := by subst hj; exact r_iast hd ha hs hi kk
theorem n_bast {a len j : Nat} {i x : Int32} (hd : decode mt.2.1 pc = .ok (.bastore, 1)) (ha : a < 193) (hs : shpS a = (101, len)) (hi : vp_in i len) (hj : ix i = j) (kk : Gw l mt R X (pc + 1) L S (nrm (wi s a j (vp_nar .byte x))) k n Z) : Gw l mt R X pc L (.int x :: .int i :: .ref a :: S) (nrm s) k n Z := by subst hj; exact r_bast hd ha hs hi kk
theorem n_zast {a len j : Nat} {i x : Int32} (hd : decode mt.2.1 pc = .ok (.bastore, 1)) (ha : a < 193) (hs : shpS a = (102, len)) (hi : vp_in i len) (hj : ix i = j) (kk : Gw l mt R X (pc + 1) L S (nrm (wi s a j (vp_nar .boolean x))) k n Z) : Gw l mt R X pc L (.int x :: .int i :: .ref a :: S) (nrm s) k n Z := by subst hj; exact r_zast hd ha hs hi kk
theorem n_last {a len j : Nat} {i : Int32} {x : Int64} (hd : decode mt.2.1 pc = .ok (.lastore, 1)) (ha : a < 193) (hs : shpS a = (103, len)) (hi : vp_in i len) (hj : ix i = j) (kk : Gw l mt R X (pc + 1) L S (nrm (wl s a j x)) k n Z) : Gw l mt R X pc L (.long x :: .int i :: .ref a :: S) (nrm s) k n Z := by subst hj; exact r_last hd ha hs hi kk
theorem n_alen {a kd len : Nat} {v : Int32} (hd : decode mt.2.1 pc = .ok (.arraylength, 1)) (ha : a < 193) (hs : shpS a = (kd, len)) (hk : kd = 100 ∨ kd = 101 ∨ kd = 102 ∨ kd = 103 ∨ kd = 104) (hv : Int32.ofNat len = v) (kk : Gw l mt R X (pc + 1) L (.int v :: S) (nrm s) k n Z) : Gw l mt R X pc L (.ref a :: S) (nrm s) k n Z := r_alen hd ha hs hk hv kk
theorem n_callS {T : Type} {qq : T → Option Value → gMem → Prop} {Q' : T} {idx na d' mc' ms' : Nat} {vs : List Value} (hC : Ct l mt' d' mc' ms' vs (nrm s) (qq Q')) (hm : g_ms mt' na) (hk : Cond.methodLink mt.1.cls idx mt'.1 ∈ g_TB) (hd : decode mt.2.1 pc = .ok (.invokestatic idx, 3)) (hn : vs.length = na) (hSe : S = vs.reverse ++ S0) (hR : d' + 1 ≤ R.frames ∧ 8 + (mt'.2.2.1 + 11) + 40 * d' ≤ R.locals) (hw : (S0.map fun v => v.category).sum ≤ 8) (hf : k + mc' ≤ R.cells ∧ n + ms' ≤ R.slots) (kk : ∀ v M', qq Q' v M' → Gw l mt R X (pc + 3) L (v.toList ++ S0) M' (k + mc') (n + ms') Z) : Gw l mt R X pc L S (nrm s) k n Z := r_callS hC hm hk hd hn hSe hR hw hf kk
end NORM
/-- what a call's end gives: an int, nothing, a long, a reference -/
theorem e_i {Q : Int32 → gS → Prop} {P : Option Value → gMem → Prop} (h : ∀ r s, Q r s → P (some (.int r)) (nrm s)) : ∀ v M, q_i Q v M → P v M := by rintro v M ⟨r, s, rfl, rfl, hq⟩; exact h r s hq
theorem e_l {Q : Int64 → gS → Prop} {P : Option Value → gMem → Prop} (h : ∀ r s, Q r s → P (some (.long r)) (nrm s)) : ∀ v M, q_l Q v M → P v M := by rintro v M ⟨r, s, rfl, rfl, hq⟩; exact h r s hq
theorem e_v {Q : gS → Prop} {P : Option Value → gMem → Prop} (h : ∀ s, Q s → P none (nrm s)) : ∀ v M, q_v Q v M → P v M := by rintro v M ⟨s, rfl, rfl, hq⟩; exact h s hq
theorem e_a {a : Nat} {Q : gS → Prop} {P : Option Value → gMem → Prop} (h : ∀ s, Q s → P (some (.ref a)) (nrm s)) : ∀ v M, q_a a Q v M → P v M := by rintro v M ⟨s, rfl, rfl, hq⟩; exact h s hq
