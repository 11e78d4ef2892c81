/-! where the references of the cells lead: pl, dr: HandsLet.plan and .draft; cp, cw: Course.plan and .world; rp: Reader.plan; all else stays as the constructors leave it -/
def zIsP (p : Nat) : Prop := p = 6 ∨ p = 39
def zIsW (w : Nat) : Prop := w = 72 ∨ w = 82 ∨ w = 92
def zRS : Nat → Nat → Option Nat := fun o j =>
  if o = 2 then (if j = 0 then some 3 else if j = 2 then some 4 else none) else
  if o = 6 then (if j = 5 then some 7 else if j = 6 then some 8 else if j = 7 then some 9 else if j = 8 then some 10 else if j = 9 then some 21 else if j = 10 then some 34 else if j = 11 then some 35 else if j = 12 then some 36 else if j = 13 then some 37 else if j = 14 then some 38 else none) else
  if o = 10 then (if j < 10 then some (11 + j) else none) else
  if o = 21 then (if j < 12 then some (22 + j) else none) else
  if o = 39 then (if j = 5 then some 40 else if j = 6 then some 41 else if j = 7 then some 42 else if j = 8 then some 43 else if j = 9 then some 54 else if j = 10 then some 67 else if j = 11 then some 68 else if j = 12 then some 69 else if j = 13 then some 70 else if j = 14 then some 71 else none) else
  if o = 43 then (if j < 10 then some (44 + j) else none) else
  if o = 54 then (if j < 12 then some (55 + j) else none) else
  if o = 72 then (if j = 2 then some 73 else if j = 3 then some 74 else if j = 4 then some 75 else if j = 5 then some 76 else if j = 6 then some 77 else if j = 7 then some 78 else if j = 8 then some 79 else if j = 9 then some 80 else if j = 10 then some 81 else none) else
  if o = 82 then (if j = 2 then some 83 else if j = 3 then some 84 else if j = 4 then some 85 else if j = 5 then some 86 else if j = 6 then some 87 else if j = 7 then some 88 else if j = 8 then some 89 else if j = 9 then some 90 else if j = 10 then some 91 else none) else
  if o = 92 then (if j = 2 then some 93 else if j = 3 then some 94 else if j = 4 then some 95 else if j = 5 then some 96 else if j = 6 then some 97 else if j = 7 then some 98 else if j = 8 then some 99 else if j = 9 then some 100 else if j = 10 then some 101 else none) else
  if o = 103 then (if j = 0 then some 104 else if j = 1 then some 105 else none) else
  if o = 106 then (if j = 3 then some 107 else if j = 4 then some 108 else if j = 5 then some 109 else if j = 6 then some 110 else if j = 7 then some 111 else if j = 8 then some 112 else none) else
  if o = 113 then (if j = 0 then some 114 else none) else
  if o = 115 then (if j = 0 then some 116 else if j = 1 then some 117 else if j = 2 then some 125 else none) else
  if o = 117 then (if j < 7 then some (118 + j) else none) else none
def zRA (pl dr : Nat) (cp cw rp : Option Nat) : Nat → Nat → Option Nat := fun o j =>
  if o = 0 then (if j = 0 then some 1 else if j = 1 then some pl else if j = 2 then some dr else if j = 3 then some 72 else if j = 4 then some 82 else if j = 5 then some 92 else if j = 7 then some 102 else if j = 8 then some 106 else if j = 9 then some 113 else if j = 10 then some 115 else if j = 11 then some 126 else none) else
  if o = 1 then (if j = 0 then some 2 else if j = 1 then rp else if j = 5 then some 5 else none) else
  if o = 102 then (if j = 0 then some 103 else if j = 1 then cp else if j = 2 then cw else none) else
  if o = 127 then (if j = 1 then some 128 else if j = 3 then some 129 else if j = 4 then some 130 else if j = 5 then some 131 else if j = 6 then some 132 else if j = 7 then some 133 else if j = 8 then some 134 else if j = 9 then some 135 else if j = 10 then some 136 else if j = 11 then some 137 else if j = 12 then some 138 else if j = 13 then some 139 else if j = 14 then some 140 else if j = 15 then some 141 else if j = 16 then some 142 else if j = 17 then some 143 else if j = 18 then some 144 else if j = 32 then some 145 else if j = 33 then some 146 else if j = 35 then some 147 else if j = 36 then some 148 else if j = 37 then some 149 else if j = 38 then some 150 else if j = 39 then some 151 else if j = 40 then some 152 else if j = 41 then some 153 else if j = 42 then some 154 else if j = 43 then some 155 else if j = 44 then some 156 else if j = 45 then some 157 else if j = 46 then some 158 else if j = 52 then some 159 else if j = 53 then some 160 else if j = 56 then some 161 else if j = 59 then some 162 else if j = 60 then some 163 else if j = 61 then some 164 else if j = 62 then some 165 else if j = 63 then some 166 else if j = 64 then some 167 else if j = 65 then some 168 else none) else
  zRS o j
theorem zRA_pl {pl dr : Nat} {cp cw rp : Option Nat} (x : Nat) : zu (zRA pl dr cp cw rp) 0 1 (some x) = zRA x dr cp cw rp := by
  funext o j
  unfold zu va_up
  by_cases h1 : o = 0
  · subst h1
    by_cases h2 : j = 1
    · subst h2; rfl
    · simp [zRA, h2]
  · rw [if_neg h1]
    simp [zRA, h1]
theorem zRA_dr {pl dr : Nat} {cp cw rp : Option Nat} (x : Nat) : zu (zRA pl dr cp cw rp) 0 2 (some x) = zRA pl x cp cw rp := by
  funext o j
  unfold zu va_up
  by_cases h1 : o = 0
  · subst h1
    by_cases h2 : j = 2
    · subst h2; rfl
    · simp [zRA, h2]
  · rw [if_neg h1]
    simp [zRA, h1]
theorem zRA_cp {pl dr : Nat} {cp cw rp : Option Nat} (x : Nat) : zu (zRA pl dr cp cw rp) 102 1 (some x) = zRA pl dr (some x) cw rp := by
  funext o j
  unfold zu va_up
  by_cases h1 : o = 102
  · subst h1
    by_cases h2 : j = 1
    · subst h2; rfl
    · simp [zRA, h2]
  · rw [if_neg h1]
    simp [zRA, h1]
theorem zRA_cw {pl dr : Nat} {cp cw rp : Option Nat} (x : Nat) : zu (zRA pl dr cp cw rp) 102 2 (some x) = zRA pl dr cp (some x) rp := by
  funext o j
  unfold zu va_up
  by_cases h1 : o = 102
  · subst h1
    by_cases h2 : j = 2
    · subst h2; rfl
    · simp [zRA, h2]
  · rw [if_neg h1]
    simp [zRA, h1]
theorem zRA_rp {pl dr : Nat} {cp cw rp : Option Nat} (x : Nat) : zu (zRA pl dr cp cw rp) 1 1 (some x) = zRA pl dr cp cw (some x) := by
  funext o j
  unfold zu va_up
  by_cases h1 : o = 1
  · subst h1
    by_cases h2 : j = 1
    · subst h2; rfl
    · simp [zRA, h2]
  · rw [if_neg h1]
    simp [zRA, h1]
theorem zk_0 : zkd 0 = 9 ∧ zln 0 = 12 := by decide +kernel
theorem zk_1 : zkd 1 = 4 ∧ zln 1 = 9 := by decide +kernel
theorem zk_2 : zkd 2 = 7 ∧ zln 2 = 8 := by decide +kernel
theorem zk_3 : zkd 3 = 101 ∧ zln 3 = 700 := by decide +kernel
theorem zk_4 : zkd 4 = 100 ∧ zln 4 = 20 := by decide +kernel
theorem zk_5 : zkd 5 = 100 ∧ zln 5 = 72 := by decide +kernel
theorem zk_6 : zkd 6 = 3 ∧ zln 6 = 15 := by decide +kernel
theorem zk_7 : zkd 7 = 100 ∧ zln 7 = 6 := by decide +kernel
theorem zk_8 : zkd 8 = 100 ∧ zln 8 = 18 := by decide +kernel
theorem zk_9 : zkd 9 = 100 ∧ zln 9 = 6 := by decide +kernel
theorem zk_10 : zkd 10 = 104 ∧ zln 10 = 10 := by decide +kernel
theorem zk_11 : zkd 11 = 100 ∧ zln 11 = 5 := by decide +kernel
theorem zk_12 : zkd 12 = 100 ∧ zln 12 = 5 := by decide +kernel
theorem zk_13 : zkd 13 = 100 ∧ zln 13 = 5 := by decide +kernel
theorem zk_14 : zkd 14 = 100 ∧ zln 14 = 5 := by decide +kernel
theorem zk_15 : zkd 15 = 100 ∧ zln 15 = 5 := by decide +kernel
theorem zk_16 : zkd 16 = 100 ∧ zln 16 = 5 := by decide +kernel
theorem zk_17 : zkd 17 = 100 ∧ zln 17 = 5 := by decide +kernel
theorem zk_18 : zkd 18 = 100 ∧ zln 18 = 5 := by decide +kernel
theorem zk_19 : zkd 19 = 100 ∧ zln 19 = 5 := by decide +kernel
theorem zk_20 : zkd 20 = 100 ∧ zln 20 = 5 := by decide +kernel
theorem zk_21 : zkd 21 = 104 ∧ zln 21 = 12 := by decide +kernel
theorem zk_22 : zkd 22 = 100 ∧ zln 22 = 3 := by decide +kernel
theorem zk_23 : zkd 23 = 100 ∧ zln 23 = 3 := by decide +kernel
theorem zk_24 : zkd 24 = 100 ∧ zln 24 = 3 := by decide +kernel
theorem zk_25 : zkd 25 = 100 ∧ zln 25 = 3 := by decide +kernel
theorem zk_26 : zkd 26 = 100 ∧ zln 26 = 3 := by decide +kernel
theorem zk_27 : zkd 27 = 100 ∧ zln 27 = 3 := by decide +kernel
theorem zk_28 : zkd 28 = 100 ∧ zln 28 = 3 := by decide +kernel
theorem zk_29 : zkd 29 = 100 ∧ zln 29 = 3 := by decide +kernel
theorem zk_30 : zkd 30 = 100 ∧ zln 30 = 3 := by decide +kernel
theorem zk_31 : zkd 31 = 100 ∧ zln 31 = 3 := by decide +kernel
theorem zk_32 : zkd 32 = 100 ∧ zln 32 = 3 := by decide +kernel
theorem zk_33 : zkd 33 = 100 ∧ zln 33 = 3 := by decide +kernel
theorem zk_34 : zkd 34 = 100 ∧ zln 34 = 3 := by decide +kernel
theorem zk_35 : zkd 35 = 100 ∧ zln 35 = 3 := by decide +kernel
theorem zk_36 : zkd 36 = 100 ∧ zln 36 = 3 := by decide +kernel
theorem zk_37 : zkd 37 = 100 ∧ zln 37 = 64 := by decide +kernel
theorem zk_38 : zkd 38 = 100 ∧ zln 38 = 64 := by decide +kernel
theorem zk_39 : zkd 39 = 3 ∧ zln 39 = 15 := by decide +kernel
theorem zk_40 : zkd 40 = 100 ∧ zln 40 = 6 := by decide +kernel
theorem zk_41 : zkd 41 = 100 ∧ zln 41 = 18 := by decide +kernel
theorem zk_42 : zkd 42 = 100 ∧ zln 42 = 6 := by decide +kernel
theorem zk_43 : zkd 43 = 104 ∧ zln 43 = 10 := by decide +kernel
theorem zk_44 : zkd 44 = 100 ∧ zln 44 = 5 := by decide +kernel
theorem zk_45 : zkd 45 = 100 ∧ zln 45 = 5 := by decide +kernel
theorem zk_46 : zkd 46 = 100 ∧ zln 46 = 5 := by decide +kernel
theorem zk_47 : zkd 47 = 100 ∧ zln 47 = 5 := by decide +kernel
theorem zk_48 : zkd 48 = 100 ∧ zln 48 = 5 := by decide +kernel
theorem zk_49 : zkd 49 = 100 ∧ zln 49 = 5 := by decide +kernel
theorem zk_50 : zkd 50 = 100 ∧ zln 50 = 5 := by decide +kernel
theorem zk_51 : zkd 51 = 100 ∧ zln 51 = 5 := by decide +kernel
theorem zk_52 : zkd 52 = 100 ∧ zln 52 = 5 := by decide +kernel
theorem zk_53 : zkd 53 = 100 ∧ zln 53 = 5 := by decide +kernel
theorem zk_54 : zkd 54 = 104 ∧ zln 54 = 12 := by decide +kernel
theorem zk_55 : zkd 55 = 100 ∧ zln 55 = 3 := by decide +kernel
theorem zk_56 : zkd 56 = 100 ∧ zln 56 = 3 := by decide +kernel
theorem zk_57 : zkd 57 = 100 ∧ zln 57 = 3 := by decide +kernel
theorem zk_58 : zkd 58 = 100 ∧ zln 58 = 3 := by decide +kernel
theorem zk_59 : zkd 59 = 100 ∧ zln 59 = 3 := by decide +kernel
theorem zk_60 : zkd 60 = 100 ∧ zln 60 = 3 := by decide +kernel
theorem zk_61 : zkd 61 = 100 ∧ zln 61 = 3 := by decide +kernel
theorem zk_62 : zkd 62 = 100 ∧ zln 62 = 3 := by decide +kernel
theorem zk_63 : zkd 63 = 100 ∧ zln 63 = 3 := by decide +kernel
theorem zk_64 : zkd 64 = 100 ∧ zln 64 = 3 := by decide +kernel
theorem zk_65 : zkd 65 = 100 ∧ zln 65 = 3 := by decide +kernel
theorem zk_66 : zkd 66 = 100 ∧ zln 66 = 3 := by decide +kernel
theorem zk_67 : zkd 67 = 100 ∧ zln 67 = 3 := by decide +kernel
theorem zk_68 : zkd 68 = 100 ∧ zln 68 = 3 := by decide +kernel
theorem zk_69 : zkd 69 = 100 ∧ zln 69 = 3 := by decide +kernel
theorem zk_70 : zkd 70 = 100 ∧ zln 70 = 64 := by decide +kernel
theorem zk_71 : zkd 71 = 100 ∧ zln 71 = 64 := by decide +kernel
theorem zk_72 : zkd 72 = 8 ∧ zln 72 = 15 := by decide +kernel
theorem zk_73 : zkd 73 = 100 ∧ zln 73 = 6 := by decide +kernel
theorem zk_74 : zkd 74 = 100 ∧ zln 74 = 18 := by decide +kernel
theorem zk_75 : zkd 75 = 100 ∧ zln 75 = 6 := by decide +kernel
theorem zk_76 : zkd 76 = 100 ∧ zln 76 = 6 := by decide +kernel
theorem zk_77 : zkd 77 = 100 ∧ zln 77 = 6 := by decide +kernel
theorem zk_78 : zkd 78 = 100 ∧ zln 78 = 12 := by decide +kernel
theorem zk_79 : zkd 79 = 100 ∧ zln 79 = 12 := by decide +kernel
theorem zk_80 : zkd 80 = 100 ∧ zln 80 = 12 := by decide +kernel
theorem zk_81 : zkd 81 = 100 ∧ zln 81 = 36 := by decide +kernel
theorem zk_82 : zkd 82 = 8 ∧ zln 82 = 15 := by decide +kernel
theorem zk_83 : zkd 83 = 100 ∧ zln 83 = 6 := by decide +kernel
theorem zk_84 : zkd 84 = 100 ∧ zln 84 = 18 := by decide +kernel
theorem zk_85 : zkd 85 = 100 ∧ zln 85 = 6 := by decide +kernel
theorem zk_86 : zkd 86 = 100 ∧ zln 86 = 6 := by decide +kernel
theorem zk_87 : zkd 87 = 100 ∧ zln 87 = 6 := by decide +kernel
theorem zk_88 : zkd 88 = 100 ∧ zln 88 = 12 := by decide +kernel
theorem zk_89 : zkd 89 = 100 ∧ zln 89 = 12 := by decide +kernel
theorem zk_90 : zkd 90 = 100 ∧ zln 90 = 12 := by decide +kernel
theorem zk_91 : zkd 91 = 100 ∧ zln 91 = 36 := by decide +kernel
theorem zk_92 : zkd 92 = 8 ∧ zln 92 = 15 := by decide +kernel
theorem zk_93 : zkd 93 = 100 ∧ zln 93 = 6 := by decide +kernel
theorem zk_94 : zkd 94 = 100 ∧ zln 94 = 18 := by decide +kernel
theorem zk_95 : zkd 95 = 100 ∧ zln 95 = 6 := by decide +kernel
theorem zk_96 : zkd 96 = 100 ∧ zln 96 = 6 := by decide +kernel
theorem zk_97 : zkd 97 = 100 ∧ zln 97 = 6 := by decide +kernel
theorem zk_98 : zkd 98 = 100 ∧ zln 98 = 12 := by decide +kernel
theorem zk_99 : zkd 99 = 100 ∧ zln 99 = 12 := by decide +kernel
theorem zk_100 : zkd 100 = 100 ∧ zln 100 = 12 := by decide +kernel
theorem zk_101 : zkd 101 = 100 ∧ zln 101 = 36 := by decide +kernel
theorem zk_102 : zkd 102 = 0 ∧ zln 102 = 8 := by decide +kernel
theorem zk_103 : zkd 103 = 6 ∧ zln 103 = 2 := by decide +kernel
theorem zk_104 : zkd 104 = 103 ∧ zln 104 = 7 := by decide +kernel
theorem zk_105 : zkd 105 = 103 ∧ zln 105 = 64 := by decide +kernel
theorem zk_106 : zkd 106 = 5 ∧ zln 106 = 9 := by decide +kernel
theorem zk_107 : zkd 107 = 100 ∧ zln 107 = 24 := by decide +kernel
theorem zk_108 : zkd 108 = 100 ∧ zln 108 = 24 := by decide +kernel
theorem zk_109 : zkd 109 = 100 ∧ zln 109 = 24 := by decide +kernel
theorem zk_110 : zkd 110 = 102 ∧ zln 110 = 24 := by decide +kernel
theorem zk_111 : zkd 111 = 100 ∧ zln 111 = 24 := by decide +kernel
theorem zk_112 : zkd 112 = 102 ∧ zln 112 = 24 := by decide +kernel
theorem zk_113 : zkd 113 = 1 ∧ zln 113 = 3 := by decide +kernel
theorem zk_114 : zkd 114 = 100 ∧ zln 114 = 260 := by decide +kernel
theorem zk_115 : zkd 115 = 2 ∧ zln 115 = 5 := by decide +kernel
theorem zk_116 : zkd 116 = 100 ∧ zln 116 = 36 := by decide +kernel
theorem zk_117 : zkd 117 = 104 ∧ zln 117 = 7 := by decide +kernel
theorem zk_118 : zkd 118 = 100 ∧ zln 118 = 64 := by decide +kernel
theorem zk_119 : zkd 119 = 100 ∧ zln 119 = 64 := by decide +kernel
theorem zk_120 : zkd 120 = 100 ∧ zln 120 = 64 := by decide +kernel
theorem zk_121 : zkd 121 = 100 ∧ zln 121 = 64 := by decide +kernel
theorem zk_122 : zkd 122 = 100 ∧ zln 122 = 64 := by decide +kernel
theorem zk_123 : zkd 123 = 100 ∧ zln 123 = 64 := by decide +kernel
theorem zk_124 : zkd 124 = 100 ∧ zln 124 = 64 := by decide +kernel
theorem zk_125 : zkd 125 = 100 ∧ zln 125 = 6 := by decide +kernel
theorem zk_126 : zkd 126 = 100 ∧ zln 126 = 11 := by decide +kernel
theorem zk_127 : zkd 127 = 10 ∧ zln 127 = 66 := by decide +kernel
theorem zk_128 : zkd 128 = 100 ∧ zln 128 = 700 := by decide +kernel
theorem zk_129 : zkd 129 = 100 ∧ zln 129 = 14 := by decide +kernel
theorem zk_130 : zkd 130 = 100 ∧ zln 130 = 12 := by decide +kernel
theorem zk_131 : zkd 131 = 100 ∧ zln 131 = 36 := by decide +kernel
theorem zk_132 : zkd 132 = 100 ∧ zln 132 = 12 := by decide +kernel
theorem zk_133 : zkd 133 = 100 ∧ zln 133 = 20 := by decide +kernel
theorem zk_134 : zkd 134 = 100 ∧ zln 134 = 20 := by decide +kernel
theorem zk_135 : zkd 135 = 100 ∧ zln 135 = 20 := by decide +kernel
theorem zk_136 : zkd 136 = 100 ∧ zln 136 = 20 := by decide +kernel
theorem zk_137 : zkd 137 = 100 ∧ zln 137 = 20 := by decide +kernel
theorem zk_138 : zkd 138 = 100 ∧ zln 138 = 24 := by decide +kernel
theorem zk_139 : zkd 139 = 100 ∧ zln 139 = 24 := by decide +kernel
theorem zk_140 : zkd 140 = 100 ∧ zln 140 = 24 := by decide +kernel
theorem zk_141 : zkd 141 = 100 ∧ zln 141 = 6 := by decide +kernel
theorem zk_142 : zkd 142 = 100 ∧ zln 142 = 6 := by decide +kernel
theorem zk_143 : zkd 143 = 100 ∧ zln 143 = 128 := by decide +kernel
theorem zk_144 : zkd 144 = 100 ∧ zln 144 = 128 := by decide +kernel
theorem zk_145 : zkd 145 = 103 ∧ zln 145 = 7 := by decide +kernel
theorem zk_146 : zkd 146 = 103 ∧ zln 146 = 64 := by decide +kernel
theorem zk_147 : zkd 147 = 100 ∧ zln 147 = 23 := by decide +kernel
theorem zk_148 : zkd 148 = 100 ∧ zln 148 = 23 := by decide +kernel
theorem zk_149 : zkd 149 = 100 ∧ zln 149 = 23 := by decide +kernel
theorem zk_150 : zkd 150 = 100 ∧ zln 150 = 23 := by decide +kernel
theorem zk_151 : zkd 151 = 100 ∧ zln 151 = 23 := by decide +kernel
theorem zk_152 : zkd 152 = 100 ∧ zln 152 = 414 := by decide +kernel
theorem zk_153 : zkd 153 = 100 ∧ zln 153 = 138 := by decide +kernel
theorem zk_154 : zkd 154 = 100 ∧ zln 154 = 138 := by decide +kernel
theorem zk_155 : zkd 155 = 100 ∧ zln 155 = 138 := by decide +kernel
theorem zk_156 : zkd 156 = 100 ∧ zln 156 = 138 := by decide +kernel
theorem zk_157 : zkd 157 = 100 ∧ zln 157 = 276 := by decide +kernel
theorem zk_158 : zkd 158 = 100 ∧ zln 158 = 828 := by decide +kernel
theorem zk_159 : zkd 159 = 100 ∧ zln 159 = 6 := by decide +kernel
theorem zk_160 : zkd 160 = 100 ∧ zln 160 = 6 := by decide +kernel
theorem zk_161 : zkd 161 = 100 ∧ zln 161 = 12 := by decide +kernel
theorem zk_162 : zkd 162 = 100 ∧ zln 162 = 24 := by decide +kernel
theorem zk_163 : zkd 163 = 100 ∧ zln 163 = 24 := by decide +kernel
theorem zk_164 : zkd 164 = 100 ∧ zln 164 = 24 := by decide +kernel
theorem zk_165 : zkd 165 = 102 ∧ zln 165 = 24 := by decide +kernel
theorem zk_166 : zkd 166 = 100 ∧ zln 166 = 24 := by decide +kernel
theorem zk_167 : zkd 167 = 102 ∧ zln 167 = 24 := by decide +kernel
theorem zk_168 : zkd 168 = 100 ∧ zln 168 = 11 := by decide +kernel
theorem zk_169 : zkd 169 = 103 ∧ zln 169 = 1 := by decide +kernel
theorem zkw_0 {w : Nat} (h : zIsW w) : zkd w = 8 ∧ zln w = 15 := by rcases h with rfl | rfl | rfl <;> decide +kernel
theorem zkw_1 {w : Nat} (h : zIsW w) : zkd (w + 1) = 100 ∧ zln (w + 1) = 6 := by rcases h with rfl | rfl | rfl <;> decide +kernel
theorem zkw_2 {w : Nat} (h : zIsW w) : zkd (w + 2) = 100 ∧ zln (w + 2) = 18 := by rcases h with rfl | rfl | rfl <;> decide +kernel
theorem zkw_3 {w : Nat} (h : zIsW w) : zkd (w + 3) = 100 ∧ zln (w + 3) = 6 := by rcases h with rfl | rfl | rfl <;> decide +kernel
theorem zkw_4 {w : Nat} (h : zIsW w) : zkd (w + 4) = 100 ∧ zln (w + 4) = 6 := by rcases h with rfl | rfl | rfl <;> decide +kernel
theorem zkw_5 {w : Nat} (h : zIsW w) : zkd (w + 5) = 100 ∧ zln (w + 5) = 6 := by rcases h with rfl | rfl | rfl <;> decide +kernel
theorem zkw_6 {w : Nat} (h : zIsW w) : zkd (w + 6) = 100 ∧ zln (w + 6) = 12 := by rcases h with rfl | rfl | rfl <;> decide +kernel
theorem zkw_7 {w : Nat} (h : zIsW w) : zkd (w + 7) = 100 ∧ zln (w + 7) = 12 := by rcases h with rfl | rfl | rfl <;> decide +kernel
theorem zkw_8 {w : Nat} (h : zIsW w) : zkd (w + 8) = 100 ∧ zln (w + 8) = 12 := by rcases h with rfl | rfl | rfl <;> decide +kernel
theorem zkw_9 {w : Nat} (h : zIsW w) : zkd (w + 9) = 100 ∧ zln (w + 9) = 36 := by rcases h with rfl | rfl | rfl <;> decide +kernel
theorem zrw_2 {w : Nat} {pl dr : Nat} {cp cw rp : Option Nat} (h : zIsW w) : zRA pl dr cp cw rp w 2 = some (w + 1) := by rcases h with rfl | rfl | rfl <;> rfl
theorem zrw_3 {w : Nat} {pl dr : Nat} {cp cw rp : Option Nat} (h : zIsW w) : zRA pl dr cp cw rp w 3 = some (w + 2) := by rcases h with rfl | rfl | rfl <;> rfl
theorem zrw_4 {w : Nat} {pl dr : Nat} {cp cw rp : Option Nat} (h : zIsW w) : zRA pl dr cp cw rp w 4 = some (w + 3) := by rcases h with rfl | rfl | rfl <;> rfl
theorem zrw_5 {w : Nat} {pl dr : Nat} {cp cw rp : Option Nat} (h : zIsW w) : zRA pl dr cp cw rp w 5 = some (w + 4) := by rcases h with rfl | rfl | rfl <;> rfl
theorem zrw_6 {w : Nat} {pl dr : Nat} {cp cw rp : Option Nat} (h : zIsW w) : zRA pl dr cp cw rp w 6 = some (w + 5) := by rcases h with rfl | rfl | rfl <;> rfl
theorem zrw_7 {w : Nat} {pl dr : Nat} {cp cw rp : Option Nat} (h : zIsW w) : zRA pl dr cp cw rp w 7 = some (w + 6) := by rcases h with rfl | rfl | rfl <;> rfl
theorem zrw_8 {w : Nat} {pl dr : Nat} {cp cw rp : Option Nat} (h : zIsW w) : zRA pl dr cp cw rp w 8 = some (w + 7) := by rcases h with rfl | rfl | rfl <;> rfl
theorem zrw_9 {w : Nat} {pl dr : Nat} {cp cw rp : Option Nat} (h : zIsW w) : zRA pl dr cp cw rp w 9 = some (w + 8) := by rcases h with rfl | rfl | rfl <;> rfl
theorem zrw_10 {w : Nat} {pl dr : Nat} {cp cw rp : Option Nat} (h : zIsW w) : zRA pl dr cp cw rp w 10 = some (w + 9) := by rcases h with rfl | rfl | rfl <;> rfl
theorem zkp_0 {p : Nat} (h : zIsP p) : zkd p = 3 ∧ zln p = 15 := by rcases h with rfl | rfl <;> decide +kernel
theorem zkp_1 {p : Nat} (h : zIsP p) : zkd (p + 1) = 100 ∧ zln (p + 1) = 6 := by rcases h with rfl | rfl <;> decide +kernel
theorem zkp_2 {p : Nat} (h : zIsP p) : zkd (p + 2) = 100 ∧ zln (p + 2) = 18 := by rcases h with rfl | rfl <;> decide +kernel
theorem zkp_3 {p : Nat} (h : zIsP p) : zkd (p + 3) = 100 ∧ zln (p + 3) = 6 := by rcases h with rfl | rfl <;> decide +kernel
theorem zkp_4 {p : Nat} (h : zIsP p) : zkd (p + 4) = 104 ∧ zln (p + 4) = 10 := by rcases h with rfl | rfl <;> decide +kernel
theorem zkp_5 {p : Nat} (h : zIsP p) : zkd (p + 5) = 100 ∧ zln (p + 5) = 5 := by rcases h with rfl | rfl <;> decide +kernel
theorem zkp_6 {p : Nat} (h : zIsP p) : zkd (p + 6) = 100 ∧ zln (p + 6) = 5 := by rcases h with rfl | rfl <;> decide +kernel
theorem zkp_7 {p : Nat} (h : zIsP p) : zkd (p + 7) = 100 ∧ zln (p + 7) = 5 := by rcases h with rfl | rfl <;> decide +kernel
theorem zkp_8 {p : Nat} (h : zIsP p) : zkd (p + 8) = 100 ∧ zln (p + 8) = 5 := by rcases h with rfl | rfl <;> decide +kernel
theorem zkp_9 {p : Nat} (h : zIsP p) : zkd (p + 9) = 100 ∧ zln (p + 9) = 5 := by rcases h with rfl | rfl <;> decide +kernel
theorem zkp_10 {p : Nat} (h : zIsP p) : zkd (p + 10) = 100 ∧ zln (p + 10) = 5 := by rcases h with rfl | rfl <;> decide +kernel
theorem zkp_11 {p : Nat} (h : zIsP p) : zkd (p + 11) = 100 ∧ zln (p + 11) = 5 := by rcases h with rfl | rfl <;> decide +kernel
theorem zkp_12 {p : Nat} (h : zIsP p) : zkd (p + 12) = 100 ∧ zln (p + 12) = 5 := by rcases h with rfl | rfl <;> decide +kernel
theorem zkp_13 {p : Nat} (h : zIsP p) : zkd (p + 13) = 100 ∧ zln (p + 13) = 5 := by rcases h with rfl | rfl <;> decide +kernel
theorem zkp_14 {p : Nat} (h : zIsP p) : zkd (p + 14) = 100 ∧ zln (p + 14) = 5 := by rcases h with rfl | rfl <;> decide +kernel
theorem zkp_15 {p : Nat} (h : zIsP p) : zkd (p + 15) = 104 ∧ zln (p + 15) = 12 := by rcases h with rfl | rfl <;> decide +kernel
theorem zkp_16 {p : Nat} (h : zIsP p) : zkd (p + 16) = 100 ∧ zln (p + 16) = 3 := by rcases h with rfl | rfl <;> decide +kernel
theorem zkp_17 {p : Nat} (h : zIsP p) : zkd (p + 17) = 100 ∧ zln (p + 17) = 3 := by rcases h with rfl | rfl <;> decide +kernel
theorem zkp_18 {p : Nat} (h : zIsP p) : zkd (p + 18) = 100 ∧ zln (p + 18) = 3 := by rcases h with rfl | rfl <;> decide +kernel
theorem zkp_19 {p : Nat} (h : zIsP p) : zkd (p + 19) = 100 ∧ zln (p + 19) = 3 := by rcases h with rfl | rfl <;> decide +kernel
theorem zkp_20 {p : Nat} (h : zIsP p) : zkd (p + 20) = 100 ∧ zln (p + 20) = 3 := by rcases h with rfl | rfl <;> decide +kernel
theorem zkp_21 {p : Nat} (h : zIsP p) : zkd (p + 21) = 100 ∧ zln (p + 21) = 3 := by rcases h with rfl | rfl <;> decide +kernel
theorem zkp_22 {p : Nat} (h : zIsP p) : zkd (p + 22) = 100 ∧ zln (p + 22) = 3 := by rcases h with rfl | rfl <;> decide +kernel
theorem zkp_23 {p : Nat} (h : zIsP p) : zkd (p + 23) = 100 ∧ zln (p + 23) = 3 := by rcases h with rfl | rfl <;> decide +kernel
theorem zkp_24 {p : Nat} (h : zIsP p) : zkd (p + 24) = 100 ∧ zln (p + 24) = 3 := by rcases h with rfl | rfl <;> decide +kernel
theorem zkp_25 {p : Nat} (h : zIsP p) : zkd (p + 25) = 100 ∧ zln (p + 25) = 3 := by rcases h with rfl | rfl <;> decide +kernel
theorem zkp_26 {p : Nat} (h : zIsP p) : zkd (p + 26) = 100 ∧ zln (p + 26) = 3 := by rcases h with rfl | rfl <;> decide +kernel
theorem zkp_27 {p : Nat} (h : zIsP p) : zkd (p + 27) = 100 ∧ zln (p + 27) = 3 := by rcases h with rfl | rfl <;> decide +kernel
theorem zkp_28 {p : Nat} (h : zIsP p) : zkd (p + 28) = 100 ∧ zln (p + 28) = 3 := by rcases h with rfl | rfl <;> decide +kernel
theorem zkp_29 {p : Nat} (h : zIsP p) : zkd (p + 29) = 100 ∧ zln (p + 29) = 3 := by rcases h with rfl | rfl <;> decide +kernel
theorem zkp_30 {p : Nat} (h : zIsP p) : zkd (p + 30) = 100 ∧ zln (p + 30) = 3 := by rcases h with rfl | rfl <;> decide +kernel
theorem zkp_31 {p : Nat} (h : zIsP p) : zkd (p + 31) = 100 ∧ zln (p + 31) = 64 := by rcases h with rfl | rfl <;> decide +kernel
theorem zkp_32 {p : Nat} (h : zIsP p) : zkd (p + 32) = 100 ∧ zln (p + 32) = 64 := by rcases h with rfl | rfl <;> decide +kernel
theorem zrp_5 {p : Nat} {pl dr : Nat} {cp cw rp : Option Nat} (h : zIsP p) : zRA pl dr cp cw rp p 5 = some (p + 1) := by rcases h with rfl | rfl <;> rfl
theorem zrp_6 {p : Nat} {pl dr : Nat} {cp cw rp : Option Nat} (h : zIsP p) : zRA pl dr cp cw rp p 6 = some (p + 2) := by rcases h with rfl | rfl <;> rfl
theorem zrp_7 {p : Nat} {pl dr : Nat} {cp cw rp : Option Nat} (h : zIsP p) : zRA pl dr cp cw rp p 7 = some (p + 3) := by rcases h with rfl | rfl <;> rfl
theorem zrp_8 {p : Nat} {pl dr : Nat} {cp cw rp : Option Nat} (h : zIsP p) : zRA pl dr cp cw rp p 8 = some (p + 4) := by rcases h with rfl | rfl <;> rfl
theorem zrp_9 {p : Nat} {pl dr : Nat} {cp cw rp : Option Nat} (h : zIsP p) : zRA pl dr cp cw rp p 9 = some (p + 15) := by rcases h with rfl | rfl <;> rfl
theorem zrp_10 {p : Nat} {pl dr : Nat} {cp cw rp : Option Nat} (h : zIsP p) : zRA pl dr cp cw rp p 10 = some (p + 28) := by rcases h with rfl | rfl <;> rfl
theorem zrp_11 {p : Nat} {pl dr : Nat} {cp cw rp : Option Nat} (h : zIsP p) : zRA pl dr cp cw rp p 11 = some (p + 29) := by rcases h with rfl | rfl <;> rfl
theorem zrp_12 {p : Nat} {pl dr : Nat} {cp cw rp : Option Nat} (h : zIsP p) : zRA pl dr cp cw rp p 12 = some (p + 30) := by rcases h with rfl | rfl <;> rfl
theorem zrp_13 {p : Nat} {pl dr : Nat} {cp cw rp : Option Nat} (h : zIsP p) : zRA pl dr cp cw rp p 13 = some (p + 31) := by rcases h with rfl | rfl <;> rfl
theorem zrp_14 {p : Nat} {pl dr : Nat} {cp cw rp : Option Nat} (h : zIsP p) : zRA pl dr cp cw rp p 14 = some (p + 32) := by rcases h with rfl | rfl <;> rfl
theorem zrow_l {p : Nat} {pl dr : Nat} {cp cw rp : Option Nat} (h : zIsP p) : ∀ j, j < 10 → zRA pl dr cp cw rp (p + 4) j = some (p + 5 + j) := by
  intro j hj
  rcases h with rfl | rfl <;> (show (if j < 10 then some (_ + j) else none) = _; rw [if_pos hj])
theorem zkrow_l {p : Nat} {i : Int32} (h : zIsP p) (hi : vp_in i 10) : zkd (p + 5 + i.toNatClampNeg) = 100 ∧ zln (p + 5 + i.toNatClampNeg) = 5 := by
  have hj : i.toNatClampNeg < 10 := Nat.not_le.mp fun q => hi (Or.inr q)
  generalize i.toNatClampNeg = j at hj ⊢
  have : ∀ j, j < 10 → zkd (6 + 5 + j) = 100 ∧ zln (6 + 5 + j) = 5 ∧ zkd (39 + 5 + j) = 100 ∧ zln (39 + 5 + j) = 5 := by decide +kernel
  have := this j hj
  rcases h with rfl | rfl
  · exact ⟨this.1, this.2.1⟩
  · exact ⟨this.2.2.1, this.2.2.2⟩
theorem zrow_t {p : Nat} {pl dr : Nat} {cp cw rp : Option Nat} (h : zIsP p) : ∀ j, j < 12 → zRA pl dr cp cw rp (p + 15) j = some (p + 16 + j) := by
  intro j hj
  rcases h with rfl | rfl <;> (show (if j < 12 then some (_ + j) else none) = _; rw [if_pos hj])
theorem zkrow_t {p : Nat} {i : Int32} (h : zIsP p) (hi : vp_in i 12) : zkd (p + 16 + i.toNatClampNeg) = 100 ∧ zln (p + 16 + i.toNatClampNeg) = 3 := by
  have hj : i.toNatClampNeg < 12 := Nat.not_le.mp fun q => hi (Or.inr q)
  generalize i.toNatClampNeg = j at hj ⊢
  have : ∀ j, j < 12 → zkd (6 + 16 + j) = 100 ∧ zln (6 + 16 + j) = 3 ∧ zkd (39 + 16 + j) = 100 ∧ zln (39 + 16 + j) = 3 := by decide +kernel
  have := this j hj
  rcases h with rfl | rfl
  · exact ⟨this.1, this.2.1⟩
  · exact ⟨this.2.2.1, this.2.2.2⟩
theorem zrow_m {pl dr : Nat} {cp cw rp : Option Nat} : ∀ j, j < 7 → zRA pl dr cp cw rp 117 j = some (118 + j) := by
  intro j hj
  show (if j < 7 then some (118 + j) else none) = _
  rw [if_pos hj]
theorem zkrow_m {i : Int32} (hi : vp_in i 7) : zkd (118 + i.toNatClampNeg) = 100 ∧ zln (118 + i.toNatClampNeg) = 64 := by
  have hj : i.toNatClampNeg < 7 := Nat.not_le.mp fun q => hi (Or.inr q)
  generalize i.toNatClampNeg = j at hj ⊢
  have : ∀ j, j < 7 → zkd (118 + j) = 100 ∧ zln (118 + j) = 64 := by decide +kernel
  exact this j hj
theorem zdrop {g a : Prop} (h : g) : (g ∧ a) = a := propext ⟨fun q => q.2, fun q => ⟨h, q⟩⟩
theorem zfr_any {ls : zLs} {i : Nat} {a : Option Value} (h : ls[i]? = some a) (ha : ∀ v, a = some v → v.category = 1) : zfree ls (i + 1) = true := by
  simp only [zfree, h]
  cases a with
  | none => rfl
  | some v => simp [ha v rfl]
theorem zm_0 : zmt[0]? = some (⟨"HandsLet$Course", "begin", "(LHandsLet$Plan;LHandsLet$World;I)V"⟩, prog_2_method_2_code, 4, none, 0) := rfl
theorem zm_1 : zmt[1]? = some (⟨"HandsLet$Course", "play", "(I)V"⟩, prog_2_method_3_code, 3, none, 0) := rfl
theorem zm_2 : zmt[2]? = some (⟨"HandsLet$Course", "playDay", "()V"⟩, prog_2_method_4_code, 2, none, 0) := rfl
theorem zm_3 : zmt[3]? = some (⟨"HandsLet$Course", "playLeases", "()V"⟩, prog_2_method_5_code, 6, none, 0) := rfl
theorem zm_4 : zmt[4]? = some (⟨"HandsLet$Course", "playLetters", "()V"⟩, prog_2_method_6_code, 3, none, 0) := rfl
theorem zm_5 : zmt[5]? = some (⟨"HandsLet$Course", "write", "(III)V"⟩, prog_2_method_7_code, 8, none, 0) := rfl
theorem zm_6 : zmt[6]? = some (⟨"HandsLet$Course", "clashes", "(I)Z"⟩, prog_2_method_8_code, 5, (some (.boolean)), 0) := rfl
theorem zm_7 : zmt[7]? = some (⟨"HandsLet$Course", "bankLooks", "()Z"⟩, prog_2_method_9_code, 2, (some (.boolean)), 0) := rfl
theorem zm_8 : zmt[8]? = some (⟨"HandsLet$Course", "findForged", "()V"⟩, prog_2_method_10_code, 5, none, 0) := rfl
theorem zm_9 : zmt[9]? = some (⟨"HandsLet$Course", "comeBack", "(I)V"⟩, prog_2_method_11_code, 7, none, 0) := rfl
theorem zm_10 : zmt[10]? = some (⟨"HandsLet$Course", "bounded", "(IIII)I"⟩, prog_2_method_12_code, 7, (some (.int)), 0) := rfl
theorem zm_11 : zmt[11]? = some (⟨"HandsLet$Deeds", "clear", "()V"⟩, prog_3_method_2_code, 1, none, 1) := rfl
theorem zm_12 : zmt[12]? = some (⟨"HandsLet$Deeds", "note", "(LHandsLet$World;I)V"⟩, prog_3_method_3_code, 4, none, 1) := rfl
theorem zm_13 : zmt[13]? = some (⟨"HandsLet$Deeds", "takeBack", "(LHandsLet$World;)I"⟩, prog_3_method_4_code, 4, (some (.int)), 1) := rfl
theorem zm_14 : zmt[14]? = some (⟨"HandsLet$Matching", "tell", "(III)V"⟩, prog_4_method_2_code, 4, none, 2) := rfl
theorem zm_15 : zmt[15]? = some (⟨"HandsLet$Matching", "solve", "(I)V"⟩, prog_4_method_3_code, 4, none, 2) := rfl
theorem zm_16 : zmt[16]? = some (⟨"HandsLet$Matching", "bestWorth", "(III)I"⟩, prog_4_method_4_code, 6, (some (.int)), 2) := rfl
theorem zm_17 : zmt[17]? = some (⟨"HandsLet$Matching", "fits", "(III)Z"⟩, prog_4_method_5_code, 4, (some (.boolean)), 2) := rfl
theorem zm_18 : zmt[18]? = some (⟨"HandsLet$Matching", "worthWith", "(III)I"⟩, prog_4_method_6_code, 4, (some (.int)), 2) := rfl
theorem zm_19 : zmt[19]? = some (⟨"HandsLet$Matching", "choose", "(I)V"⟩, prog_4_method_7_code, 5, none, 2) := rfl
theorem zm_20 : zmt[20]? = some (⟨"HandsLet$Plan", "empty", "()V"⟩, prog_5_method_2_code, 2, none, 3) := rfl
theorem zm_21 : zmt[21]? = some (⟨"HandsLet$Plan", "personNamed", "(I)I"⟩, prog_5_method_3_code, 3, (some (.int)), 3) := rfl
theorem zm_22 : zmt[22]? = some (⟨"HandsLet$Reader", "read", "(ILHandsLet$Plan;)V"⟩, prog_6_method_2_code, 4, none, 4) := rfl
theorem zm_23 : zmt[23]? = some (⟨"HandsLet$Reader", "fail", "(I)V"⟩, prog_6_method_3_code, 2, none, 4) := rfl
theorem zm_24 : zmt[24]? = some (⟨"HandsLet$Reader", "take", "(I)V"⟩, prog_6_method_4_code, 2, none, 4) := rfl
theorem zm_25 : zmt[25]? = some (⟨"HandsLet$Reader", "takeNumber", "(II)I"⟩, prog_6_method_5_code, 4, (some (.int)), 4) := rfl
theorem zm_26 : zmt[26]? = some (⟨"HandsLet$Reader", "takeNewName", "()I"⟩, prog_6_method_6_code, 2, (some (.int)), 4) := rfl
theorem zm_27 : zmt[27]? = some (⟨"HandsLet$Reader", "takePerson", "(I)I"⟩, prog_6_method_7_code, 3, (some (.int)), 4) := rfl
theorem zm_28 : zmt[28]? = some (⟨"HandsLet$Reader", "readMan", "()V"⟩, prog_6_method_8_code, 3, none, 4) := rfl
theorem zm_29 : zmt[29]? = some (⟨"HandsLet$Reader", "readLease", "()V"⟩, prog_6_method_9_code, 2, none, 4) := rfl
theorem zm_30 : zmt[30]? = some (⟨"HandsLet$Reader", "readLetter", "()V"⟩, prog_6_method_10_code, 2, none, 4) := rfl
theorem zm_31 : zmt[31]? = some (⟨"HandsLet$Reader", "readSetting", "()V"⟩, prog_6_method_11_code, 2, none, 4) := rfl
theorem zm_32 : zmt[32]? = some (⟨"HandsLet$Reader", "tellOnce", "(I)V"⟩, prog_6_method_12_code, 2, none, 4) := rfl
theorem zm_33 : zmt[33]? = some (⟨"HandsLet$Reader", "readLaw", "()V"⟩, prog_6_method_13_code, 4, none, 4) := rfl
theorem zm_34 : zmt[34]? = some (⟨"HandsLet$Reader", "readOperand", "()Z"⟩, prog_6_method_14_code, 5, (some (.boolean)), 4) := rfl
theorem zm_35 : zmt[35]? = some (⟨"HandsLet$Reader", "mayDeny", "()Z"⟩, prog_6_method_15_code, 1, (some (.boolean)), 4) := rfl
theorem zm_36 : zmt[36]? = some (⟨"HandsLet$Reader", "readJoint", "()Z"⟩, prog_6_method_16_code, 3, (some (.boolean)), 4) := rfl
theorem zm_37 : zmt[37]? = some (⟨"HandsLet$Reader", "holdJoint", "(II)V"⟩, prog_6_method_17_code, 4, none, 4) := rfl
theorem zm_38 : zmt[38]? = some (⟨"HandsLet$Reader", "countKnot", "()V"⟩, prog_6_method_18_code, 1, none, 4) := rfl
theorem zm_39 : zmt[39]? = some (⟨"HandsLet$Reader", "hold", "(I)V"⟩, prog_6_method_19_code, 2, none, 4) := rfl
theorem zm_40 : zmt[40]? = some (⟨"HandsLet$Reader", "setKnotDown", "(II)V"⟩, prog_6_method_20_code, 3, none, 4) := rfl
theorem zm_41 : zmt[41]? = some (⟨"HandsLet$Reader", "settle", "(I)V"⟩, prog_6_method_21_code, 2, none, 4) := rfl
theorem zm_42 : zmt[42]? = some (⟨"HandsLet$Reader", "rankOf", "(I)I"⟩, prog_6_method_22_code, 1, (some (.int)), 4) := rfl
theorem zm_43 : zmt[43]? = some (⟨"HandsLet$Sight", "clear", "()V"⟩, prog_7_method_2_code, 1, none, 5) := rfl
theorem zm_44 : zmt[44]? = some (⟨"HandsLet$Sight", "add", "(IIIZ)I"⟩, prog_7_method_3_code, 5, (some (.int)), 5) := rfl
theorem zm_45 : zmt[45]? = some (⟨"HandsLet$Sight", "addStrike", "(I)I"⟩, prog_7_method_4_code, 2, (some (.int)), 5) := rfl
theorem zm_46 : zmt[46]? = some (⟨"HandsLet$Sight", "knowBy", "(I)Z"⟩, prog_7_method_5_code, 2, (some (.boolean)), 5) := rfl
theorem zm_47 : zmt[47]? = some (⟨"HandsLet$Sight", "knownMany", "()I"⟩, prog_7_method_6_code, 1, (some (.int)), 5) := rfl
theorem zm_48 : zmt[48]? = some (⟨"HandsLet$Sight", "weigh", "()V"⟩, prog_7_method_7_code, 3, none, 5) := rfl
theorem zm_49 : zmt[49]? = some (⟨"HandsLet$Sight", "agrees", "(I[I)Z"⟩, prog_7_method_8_code, 4, (some (.boolean)), 5) := rfl
theorem zm_50 : zmt[50]? = some (⟨"HandsLet$Sums", "tellNames", "(LHandsLet$World;III)V"⟩, prog_8_method_2_code, 6, none, 6) := rfl
theorem zm_51 : zmt[51]? = some (⟨"HandsLet$Sums", "work", "(LHandsLet$Plan;I)J"⟩, prog_8_method_3_code, 6, (some (.long)), 6) := rfl
theorem zm_52 : zmt[52]? = some (⟨"HandsLet$Sums", "bit", "(Z)J"⟩, prog_8_method_4_code, 1, (some (.long)), 6) := rfl
theorem zm_53 : zmt[53]? = some (⟨"HandsLet$Sums", "join", "(IJJ)J"⟩, prog_8_method_5_code, 5, (some (.long)), 6) := rfl
theorem zm_54 : zmt[54]? = some (⟨"HandsLet$Sums", "within", "(J)J"⟩, prog_8_method_6_code, 2, (some (.long)), 6) := rfl
theorem zm_55 : zmt[55]? = some (⟨"HandsLet$Sums", "product", "(JJ)J"⟩, prog_8_method_7_code, 8, (some (.long)), 6) := rfl
theorem zm_56 : zmt[56]? = some (⟨"HandsLet$Tokens", "packed", "(II)I"⟩, prog_9_method_2_code, 2, (some (.int)), 7) := rfl
theorem zm_57 : zmt[57]? = some (⟨"HandsLet$Tokens", "put", "(I)V"⟩, prog_9_method_3_code, 3, none, 7) := rfl
theorem zm_58 : zmt[58]? = some (⟨"HandsLet$Tokens", "start", "(I)V"⟩, prog_9_method_4_code, 2, none, 7) := rfl
theorem zm_59 : zmt[59]? = some (⟨"HandsLet$Tokens", "advance", "()V"⟩, prog_9_method_5_code, 1, none, 7) := rfl
theorem zm_60 : zmt[60]? = some (⟨"HandsLet$Tokens", "isSmall", "(I)Z"⟩, prog_9_method_6_code, 1, (some (.boolean)), 7) := rfl
theorem zm_61 : zmt[61]? = some (⟨"HandsLet$Tokens", "isDigit", "(I)Z"⟩, prog_9_method_7_code, 1, (some (.boolean)), 7) := rfl
theorem zm_62 : zmt[62]? = some (⟨"HandsLet$Tokens", "readWord", "()V"⟩, prog_9_method_8_code, 2, none, 7) := rfl
theorem zm_63 : zmt[63]? = some (⟨"HandsLet$Tokens", "kindOfWord", "(I)I"⟩, prog_9_method_9_code, 3, (some (.int)), 7) := rfl
theorem zm_64 : zmt[64]? = some (⟨"HandsLet$Tokens", "readNumber", "()V"⟩, prog_9_method_10_code, 1, none, 7) := rfl
theorem zm_65 : zmt[65]? = some (⟨"HandsLet$Tokens", "readSign", "()V"⟩, prog_9_method_11_code, 3, none, 7) := rfl
theorem zm_66 : zmt[66]? = some (⟨"HandsLet$Tokens", "kindOfSign", "(I)I"⟩, prog_9_method_12_code, 1, (some (.int)), 7) := rfl
theorem zm_67 : zmt[67]? = some (⟨"HandsLet$World", "begin", "(LHandsLet$Plan;)V"⟩, prog_10_method_2_code, 3, none, 8) := rfl
theorem zm_68 : zmt[68]? = some (⟨"HandsLet$World", "copy", "(LHandsLet$World;)V"⟩, prog_10_method_3_code, 2, none, 8) := rfl
theorem zm_69 : zmt[69]? = some (⟨"HandsLet$World", "isLet", "(I)Z"⟩, prog_10_method_4_code, 2, (some (.boolean)), 8) := rfl
theorem zm_70 : zmt[70]? = some (⟨"HandsLet$World", "holderOf", "(I)I"⟩, prog_10_method_5_code, 2, (some (.int)), 8) := rfl
theorem zm_71 : zmt[71]? = some (⟨"HandsLet$World", "mayLet", "(III)Z"⟩, prog_10_method_6_code, 4, (some (.boolean)), 8) := rfl
theorem zm_72 : zmt[72]? = some (⟨"HandsLet$World", "handOver", "(IIII)V"⟩, prog_10_method_7_code, 5, none, 8) := rfl
theorem zm_73 : zmt[73]? = some (⟨"HandsLet$World", "drawNumber", "()I"⟩, prog_10_method_8_code, 1, (some (.int)), 8) := rfl
theorem zm_74 : zmt[74]? = some (⟨"HandsLet$World", "pursesInSum", "()I"⟩, prog_10_method_9_code, 6, (some (.int)), 8) := rfl
theorem zm_75 : zmt[75]? = some (⟨"HandsLet$World", "handsLet", "()I"⟩, prog_10_method_10_code, 3, (some (.int)), 8) := rfl
theorem zm_76 : zmt[76]? = some (⟨"HandsLet", "feed", "(IIIII)I"⟩, prog_1_method_2_code, 7, (some (.int)), 9) := rfl
theorem zm_77 : zmt[77]? = some (⟨"HandsLet", "text", "(I)I"⟩, prog_1_method_3_code, 3, (some (.int)), 9) := rfl
theorem zm_78 : zmt[78]? = some (⟨"HandsLet", "fault", "(I)I"⟩, prog_1_method_4_code, 2, (some (.int)), 9) := rfl
theorem zm_79 : zmt[79]? = some (⟨"HandsLet", "named", "(I)I"⟩, prog_1_method_5_code, 2, (some (.int)), 9) := rfl
theorem zm_80 : zmt[80]? = some (⟨"HandsLet", "isPerson", "(I)Z"⟩, prog_1_method_6_code, 2, (some (.boolean)), 9) := rfl
theorem zm_81 : zmt[81]? = some (⟨"HandsLet", "isLetter", "(I)Z"⟩, prog_1_method_7_code, 2, (some (.boolean)), 9) := rfl
theorem zm_82 : zmt[82]? = some (⟨"HandsLet", "man", "(II)I"⟩, prog_1_method_9_code, 3, (some (.int)), 9) := rfl
theorem zm_83 : zmt[83]? = some (⟨"HandsLet", "handsHeldBy", "(I)I"⟩, prog_1_method_10_code, 4, (some (.int)), 9) := rfl
theorem zm_84 : zmt[84]? = some (⟨"HandsLet", "lettersForgedBy", "(I)I"⟩, prog_1_method_11_code, 4, (some (.int)), 9) := rfl
theorem zm_85 : zmt[85]? = some (⟨"HandsLet", "letter", "(II)I"⟩, prog_1_method_12_code, 3, (some (.int)), 9) := rfl
theorem zm_86 : zmt[86]? = some (⟨"HandsLet", "law", "(IIII)J"⟩, prog_1_method_13_code, 5, (some (.long)), 9) := rfl
theorem zm_87 : zmt[87]? = some (⟨"HandsLet", "isPrice", "(I)Z"⟩, prog_1_method_14_code, 1, (some (.boolean)), 9) := rfl
theorem zm_88 : zmt[88]? = some (⟨"HandsLet", "let", "(IIII)I"⟩, prog_1_method_15_code, 6, (some (.int)), 9) := rfl
theorem zm_89 : zmt[89]? = some (⟨"HandsLet", "end", "(I)I"⟩, prog_1_method_16_code, 2, (some (.int)), 9) := rfl
theorem zm_90 : zmt[90]? = some (⟨"HandsLet", "teach", "(I)I"⟩, prog_1_method_17_code, 3, (some (.int)), 9) := rfl
theorem zm_91 : zmt[91]? = some (⟨"HandsLet", "go", "(I)I"⟩, prog_1_method_18_code, 2, (some (.int)), 9) := rfl
theorem zm_92 : zmt[92]? = some (⟨"HandsLet", "tryFromNow", "(I)V"⟩, prog_1_method_19_code, 2, none, 9) := rfl
theorem zm_93 : zmt[93]? = some (⟨"HandsLet", "ahead", "(III)I"⟩, prog_1_method_20_code, 4, (some (.int)), 9) := rfl
theorem zm_94 : zmt[94]? = some (⟨"HandsLet", "free", "(I)I"⟩, prog_1_method_21_code, 2, (some (.int)), 9) := rfl
theorem zm_95 : zmt[95]? = some (⟨"HandsLet", "distance", "([III)I"⟩, prog_1_method_22_code, 6, (some (.int)), 9) := rfl
theorem zm_96 : zmt[96]? = some (⟨"HandsLet", "apart", "(II)I"⟩, prog_1_method_23_code, 3, (some (.int)), 9) := rfl
theorem zm_97 : zmt[97]? = some (⟨"HandsLet", "like", "(I)I"⟩, prog_1_method_24_code, 4, (some (.int)), 9) := rfl
theorem zm_98 : zmt[98]? = some (⟨"HandsLet", "could", "(II)I"⟩, prog_1_method_25_code, 5, (some (.int)), 9) := rfl
theorem zm_99 : zmt[99]? = some (⟨"HandsLet", "match", "(I)I"⟩, prog_1_method_26_code, 5, (some (.int)), 9) := rfl
theorem zm_100 : zmt[100]? = some (⟨"HandsLet", "auction", "(II)I"⟩, prog_1_method_27_code, 5, (some (.int)), 9) := rfl
theorem zm_101 : zmt[101]? = some (⟨"HandsLet", "highestBidder", "(II)I"⟩, prog_1_method_28_code, 5, (some (.int)), 9) := rfl
theorem zm_102 : zmt[102]? = some (⟨"HandsLet", "bid", "(II)I"⟩, prog_1_method_29_code, 4, (some (.int)), 9) := rfl
theorem zm_103 : zmt[103]? = some (⟨"HandsLet", "putOff", "()I"⟩, prog_1_method_30_code, 3, (some (.int)), 9) := rfl
theorem zm_104 : zmt[104]? = some (⟨"HandsLet", "putOffIn", "(I)I"⟩, prog_1_method_31_code, 5, (some (.int)), 9) := rfl
theorem zm_105 : zmt[105]? = some (⟨"HandsLet", "lettersTold", "(II)I"⟩, prog_1_method_32_code, 6, (some (.int)), 9) := rfl
theorem zm_106 : zmt[106]? = some (⟨"HandsLet", "ring", "(II)I"⟩, prog_1_method_33_code, 7, (some (.int)), 9) := rfl
theorem zm_107 : zmt[107]? = some (⟨"HandsLet", "lessons", "(I)I"⟩, prog_1_method_34_code, 6, (some (.int)), 9) := rfl
theorem zm_108 : zmt[108]? = some (⟨"HandsLet", "arePlayers", "(II)Z"⟩, prog_1_method_35_code, 3, (some (.boolean)), 9) := rfl
theorem zm_109 : zmt[109]? = some (⟨"HandsLet", "gain", "(IIII)I"⟩, prog_1_method_36_code, 5, (some (.int)), 9) := rfl
theorem zm_110 : zmt[110]? = some (⟨"HandsLet", "isRest", "(IIII)Z"⟩, prog_1_method_37_code, 5, (some (.boolean)), 9) := rfl
theorem zm_111 : zmt[111]? = some (⟨"HandsLet", "rests", "(II)I"⟩, prog_1_method_38_code, 5, (some (.int)), 9) := rfl
theorem zm_112 : zmt[112]? = some (⟨"HandsLet", "rest", "(III)I"⟩, prog_1_method_39_code, 6, (some (.int)), 9) := rfl
theorem zm_113 : zmt[113]? = some (⟨"HandsLet", "quiet", "(II)J"⟩, prog_1_method_40_code, 9, (some (.long)), 9) := rfl
theorem zm_114 : zmt[114]? = some (⟨"HandsLet", "commonDivisor", "(II)I"⟩, prog_1_method_41_code, 6, (some (.int)), 9) := rfl
theorem zm_115 : zmt[115]? = some (⟨"HandsLet", "chance", "(III)I"⟩, prog_1_method_42_code, 8, (some (.int)), 9) := rfl
theorem zm_116 : zmt[116]? = some (⟨"HandsLet", "tried", "(III)I"⟩, prog_1_method_43_code, 4, (some (.int)), 9) := rfl
theorem zm_117 : zmt[117]? = some (⟨"HandsLet", "see", "(IIIIZ)I"⟩, prog_1_method_44_code, 6, (some (.int)), 9) := rfl
theorem zm_118 : zmt[118]? = some (⟨"HandsLet", "strike", "(I)I"⟩, prog_1_method_45_code, 2, (some (.int)), 9) := rfl
theorem zm_119 : zmt[119]? = some (⟨"HandsLet", "known", "(I)Z"⟩, prog_1_method_46_code, 2, (some (.boolean)), 9) := rfl
theorem zm_120 : zmt[120]? = some (⟨"HandsLet", "wears", "()I"⟩, prog_1_method_47_code, 3, (some (.int)), 9) := rfl
theorem zm_121 : zmt[121]? = some (⟨"HandsLet", "agreesWith", "(I)Z"⟩, prog_1_method_48_code, 3, (some (.boolean)), 9) := rfl
theorem zm_122 : zmt[122]? = some (⟨"HandsLet", "ask", "(II)I"⟩, prog_1_method_49_code, 6, (some (.int)), 9) := rfl
theorem zm_123 : zmt[123]? = some (⟨"HandsLet", "leftAtWorst", "(II)I"⟩, prog_1_method_50_code, 5, (some (.int)), 9) := rfl
theorem zm_124 : zmt[124]? = some (⟨"HandsLet", "undo", "()I"⟩, prog_1_method_51_code, 1, (some (.int)), 9) := rfl
theorem zm_125 : zmt[125]? = some (⟨"HandsLet", "keep", "()I"⟩, prog_1_method_52_code, 1, (some (.int)), 9) := rfl
theorem zm_126 : zmt[126]? = some (⟨"HandsLet", "back", "()I"⟩, prog_1_method_53_code, 1, (some (.int)), 9) := rfl
theorem zm_127 : zmt[127]? = some (⟨"HandsLet", "count", "(I)I"⟩, prog_1_method_54_code, 2, (some (.int)), 9) := rfl
theorem zm_128 : zmt[128]? = some (⟨"HandsLetModel", "thrown", "()I"⟩, prog_12_method_2_code, 1, (some (.int)), 10) := rfl
theorem zm_129 : zmt[129]? = some (⟨"HandsLetModel", "feed", "(IIIII)I"⟩, prog_12_method_3_code, 8, (some (.int)), 10) := rfl
theorem zm_130 : zmt[130]? = some (⟨"HandsLetModel", "here", "()I"⟩, prog_12_method_4_code, 1, (some (.int)), 10) := rfl
theorem zm_131 : zmt[131]? = some (⟨"HandsLetModel", "isSmall", "(I)Z"⟩, prog_12_method_5_code, 1, (some (.boolean)), 10) := rfl
theorem zm_132 : zmt[132]? = some (⟨"HandsLetModel", "isDigit", "(I)Z"⟩, prog_12_method_6_code, 1, (some (.boolean)), 10) := rfl
theorem zm_133 : zmt[133]? = some (⟨"HandsLetModel", "token", "()V"⟩, prog_12_method_7_code, 2, none, 10) := rfl
theorem zm_134 : zmt[134]? = some (⟨"HandsLetModel", "sign", "(I)V"⟩, prog_12_method_8_code, 2, none, 10) := rfl
theorem zm_135 : zmt[135]? = some (⟨"HandsLetModel", "word", "()I"⟩, prog_12_method_9_code, 4, (some (.int)), 10) := rfl
theorem zm_136 : zmt[136]? = some (⟨"HandsLetModel", "name", "()V"⟩, prog_12_method_10_code, 2, none, 10) := rfl
theorem zm_137 : zmt[137]? = some (⟨"HandsLetModel", "wrong", "(I)V"⟩, prog_12_method_11_code, 2, none, 10) := rfl
theorem zm_138 : zmt[138]? = some (⟨"HandsLetModel", "isWord", "(I)Z"⟩, prog_12_method_12_code, 2, (some (.boolean)), 10) := rfl
theorem zm_139 : zmt[139]? = some (⟨"HandsLetModel", "isSign", "(I)Z"⟩, prog_12_method_13_code, 2, (some (.boolean)), 10) := rfl
theorem zm_140 : zmt[140]? = some (⟨"HandsLetModel", "goOn", "()V"⟩, prog_12_method_14_code, 1, none, 10) := rfl
theorem zm_141 : zmt[141]? = some (⟨"HandsLetModel", "numeral", "(II)I"⟩, prog_12_method_15_code, 4, (some (.int)), 10) := rfl
theorem zm_142 : zmt[142]? = some (⟨"HandsLetModel", "found", "([IIII)I"⟩, prog_12_method_16_code, 5, (some (.int)), 10) := rfl
theorem zm_143 : zmt[143]? = some (⟨"HandsLetModel", "fresh", "([III)I"⟩, prog_12_method_17_code, 5, (some (.int)), 10) := rfl
theorem zm_144 : zmt[144]? = some (⟨"HandsLetModel", "fresher", "(I)I"⟩, prog_12_method_18_code, 2, (some (.int)), 10) := rfl
theorem zm_145 : zmt[145]? = some (⟨"HandsLetModel", "reads", "(II)V"⟩, prog_12_method_19_code, 3, none, 10) := rfl
theorem zm_146 : zmt[146]? = some (⟨"HandsLetModel", "manAtHand", "()I"⟩, prog_12_method_20_code, 2, (some (.int)), 10) := rfl
theorem zm_147 : zmt[147]? = some (⟨"HandsLetModel", "manAhead", "()I"⟩, prog_12_method_21_code, 2, (some (.int)), 10) := rfl
theorem zm_148 : zmt[148]? = some (⟨"HandsLetModel", "isFull", "(I)Z"⟩, prog_12_method_22_code, 2, (some (.boolean)), 10) := rfl
theorem zm_149 : zmt[149]? = some (⟨"HandsLetModel", "line", "()V"⟩, prog_12_method_23_code, 4, none, 10) := rfl
theorem zm_150 : zmt[150]? = some (⟨"HandsLetModel", "leaseLine", "()V"⟩, prog_12_method_24_code, 2, none, 10) := rfl
theorem zm_151 : zmt[151]? = some (⟨"HandsLetModel", "lawLine", "()V"⟩, prog_12_method_25_code, 2, none, 10) := rfl
theorem zm_152 : zmt[152]? = some (⟨"HandsLetModel", "puts", "(II)V"⟩, prog_12_method_26_code, 3, none, 10) := rfl
theorem zm_153 : zmt[153]? = some (⟨"HandsLetModel", "knot", "()V"⟩, prog_12_method_27_code, 1, none, 10) := rfl
theorem zm_154 : zmt[154]? = some (⟨"HandsLetModel", "expression", "()V"⟩, prog_12_method_28_code, 1, none, 10) := rfl
theorem zm_155 : zmt[155]? = some (⟨"HandsLetModel", "conjunction", "()V"⟩, prog_12_method_29_code, 1, none, 10) := rfl
theorem zm_156 : zmt[156]? = some (⟨"HandsLetModel", "negation", "()V"⟩, prog_12_method_30_code, 2, none, 10) := rfl
theorem zm_157 : zmt[157]? = some (⟨"HandsLetModel", "sum", "()V"⟩, prog_12_method_31_code, 2, none, 10) := rfl
theorem zm_158 : zmt[158]? = some (⟨"HandsLetModel", "product", "()V"⟩, prog_12_method_32_code, 2, none, 10) := rfl
theorem zm_159 : zmt[159]? = some (⟨"HandsLetModel", "primary", "()V"⟩, prog_12_method_33_code, 2, none, 10) := rfl
theorem zm_160 : zmt[160]? = some (⟨"HandsLetModel", "half", "([I)V"⟩, prog_12_method_34_code, 3, none, 10) := rfl
theorem zm_161 : zmt[161]? = some (⟨"HandsLetModel", "text", "(I)I"⟩, prog_12_method_35_code, 3, (some (.int)), 10) := rfl
theorem zm_162 : zmt[162]? = some (⟨"HandsLetModel", "fault", "(I)I"⟩, prog_12_method_36_code, 2, (some (.int)), 10) := rfl
theorem zm_163 : zmt[163]? = some (⟨"HandsLetModel", "named", "(I)I"⟩, prog_12_method_37_code, 2, (some (.int)), 10) := rfl
theorem zm_164 : zmt[164]? = some (⟨"HandsLetModel", "is", "(Z)J"⟩, prog_12_method_38_code, 1, (some (.long)), 10) := rfl
theorem zm_165 : zmt[165]? = some (⟨"HandsLetModel", "works", "(I)Z"⟩, prog_12_method_39_code, 8, (some (.boolean)), 10) := rfl
theorem zm_166 : zmt[166]? = some (⟨"HandsLetModel", "goes", "(I)Z"⟩, prog_12_method_40_code, 3, (some (.boolean)), 10) := rfl
theorem zm_167 : zmt[167]? = some (⟨"HandsLetModel", "hasLaw", "(I)Z"⟩, prog_12_method_41_code, 2, (some (.boolean)), 10) := rfl
theorem zm_168 : zmt[168]? = some (⟨"HandsLetModel", "starts", "(I)V"⟩, prog_12_method_42_code, 6, none, 10) := rfl
theorem zm_169 : zmt[169]? = some (⟨"HandsLetModel", "begins", "()V"⟩, prog_12_method_43_code, 1, none, 10) := rfl
theorem zm_170 : zmt[170]? = some (⟨"HandsLetModel", "copies", "(II)V"⟩, prog_12_method_44_code, 7, none, 10) := rfl
theorem zm_171 : zmt[171]? = some (⟨"HandsLetModel", "isMan", "(I)Z"⟩, prog_12_method_45_code, 2, (some (.boolean)), 10) := rfl
theorem zm_172 : zmt[172]? = some (⟨"HandsLetModel", "isLet", "(II)Z"⟩, prog_12_method_46_code, 3, (some (.boolean)), 10) := rfl
theorem zm_173 : zmt[173]? = some (⟨"HandsLetModel", "holderOf", "(II)I"⟩, prog_12_method_47_code, 3, (some (.int)), 10) := rfl
theorem zm_174 : zmt[174]? = some (⟨"HandsLetModel", "bitsOf", "(I)I"⟩, prog_12_method_48_code, 3, (some (.int)), 10) := rfl
theorem zm_175 : zmt[175]? = some (⟨"HandsLetModel", "calls", "(IIII)V"⟩, prog_12_method_49_code, 6, none, 10) := rfl
theorem zm_176 : zmt[176]? = some (⟨"HandsLetModel", "within", "(III)I"⟩, prog_12_method_50_code, 4, (some (.int)), 10) := rfl
theorem zm_177 : zmt[177]? = some (⟨"HandsLetModel", "rentOf", "(IIII)I"⟩, prog_12_method_51_code, 5, (some (.int)), 10) := rfl
theorem zm_178 : zmt[178]? = some (⟨"HandsLetModel", "canLet", "(IIII)Z"⟩, prog_12_method_52_code, 5, (some (.boolean)), 10) := rfl
theorem zm_179 : zmt[179]? = some (⟨"HandsLetModel", "lets", "(IIIII)V"⟩, prog_12_method_53_code, 7, none, 10) := rfl
theorem zm_180 : zmt[180]? = some (⟨"HandsLetModel", "writes", "(II)V"⟩, prog_12_method_54_code, 9, none, 10) := rfl
theorem zm_181 : zmt[181]? = some (⟨"HandsLetModel", "doesLook", "(IZ)Z"⟩, prog_12_method_55_code, 4, (some (.boolean)), 10) := rfl
theorem zm_182 : zmt[182]? = some (⟨"HandsLetModel", "isForgedToday", "(II)Z"⟩, prog_12_method_56_code, 3, (some (.boolean)), 10) := rfl
theorem zm_183 : zmt[183]? = some (⟨"HandsLetModel", "looks", "(I)V"⟩, prog_12_method_57_code, 5, none, 10) := rfl
theorem zm_184 : zmt[184]? = some (⟨"HandsLetModel", "comesBack", "(II)V"⟩, prog_12_method_58_code, 8, none, 10) := rfl
theorem zm_185 : zmt[185]? = some (⟨"HandsLetModel", "passes", "(IZ)V"⟩, prog_12_method_59_code, 5, none, 10) := rfl
theorem zm_186 : zmt[186]? = some (⟨"HandsLetModel", "goesOn", "(I)V"⟩, prog_12_method_60_code, 3, none, 10) := rfl
theorem zm_187 : zmt[187]? = some (⟨"HandsLetModel", "forgedBy", "(II)I"⟩, prog_12_method_61_code, 6, (some (.int)), 10) := rfl
theorem zm_188 : zmt[188]? = some (⟨"HandsLetModel", "purses", "(I)I"⟩, prog_12_method_62_code, 4, (some (.int)), 10) := rfl
theorem zm_189 : zmt[189]? = some (⟨"HandsLetModel", "apartOf", "(III)I"⟩, prog_12_method_63_code, 6, (some (.int)), 10) := rfl
theorem zm_190 : zmt[190]? = some (⟨"HandsLetModel", "orNone", "(I)I"⟩, prog_12_method_64_code, 1, (some (.int)), 10) := rfl
theorem zm_191 : zmt[191]? = some (⟨"HandsLetModel", "hand", "(II)I"⟩, prog_12_method_65_code, 3, (some (.int)), 10) := rfl
theorem zm_192 : zmt[192]? = some (⟨"HandsLetModel", "heldBy", "(I)I"⟩, prog_12_method_66_code, 4, (some (.int)), 10) := rfl
theorem zm_193 : zmt[193]? = some (⟨"HandsLetModel", "man", "(II)I"⟩, prog_12_method_67_code, 3, (some (.int)), 10) := rfl
theorem zm_194 : zmt[194]? = some (⟨"HandsLetModel", "letter", "(II)I"⟩, prog_12_method_68_code, 3, (some (.int)), 10) := rfl
theorem zm_195 : zmt[195]? = some (⟨"HandsLetModel", "law", "(IIII)J"⟩, prog_12_method_69_code, 5, (some (.long)), 10) := rfl
theorem zm_196 : zmt[196]? = some (⟨"HandsLetModel", "keepNow", "()V"⟩, prog_12_method_70_code, 2, none, 10) := rfl
theorem zm_197 : zmt[197]? = some (⟨"HandsLetModel", "let", "(IIII)I"⟩, prog_12_method_71_code, 5, (some (.int)), 10) := rfl
theorem zm_198 : zmt[198]? = some (⟨"HandsLetModel", "end", "(I)I"⟩, prog_12_method_72_code, 2, (some (.int)), 10) := rfl
theorem zm_199 : zmt[199]? = some (⟨"HandsLetModel", "lesson", "(II)V"⟩, prog_12_method_73_code, 5, none, 10) := rfl
theorem zm_200 : zmt[200]? = some (⟨"HandsLetModel", "teach", "(I)I"⟩, prog_12_method_74_code, 2, (some (.int)), 10) := rfl
theorem zm_201 : zmt[201]? = some (⟨"HandsLetModel", "go", "(I)I"⟩, prog_12_method_75_code, 3, (some (.int)), 10) := rfl
theorem zm_202 : zmt[202]? = some (⟨"HandsLetModel", "ahead", "(III)I"⟩, prog_12_method_76_code, 4, (some (.int)), 10) := rfl
theorem zm_203 : zmt[203]? = some (⟨"HandsLetModel", "free", "(I)I"⟩, prog_12_method_77_code, 3, (some (.int)), 10) := rfl
theorem zm_204 : zmt[204]? = some (⟨"HandsLetModel", "apart", "(II)I"⟩, prog_12_method_78_code, 3, (some (.int)), 10) := rfl
theorem zm_205 : zmt[205]? = some (⟨"HandsLetModel", "like", "(I)I"⟩, prog_12_method_79_code, 4, (some (.int)), 10) := rfl
theorem zm_206 : zmt[206]? = some (⟨"HandsLetModel", "could", "(II)I"⟩, prog_12_method_80_code, 7, (some (.int)), 10) := rfl
theorem zm_207 : zmt[207]? = some (⟨"HandsLetModel", "matches", "(IIII)V"⟩, prog_12_method_81_code, 6, none, 10) := rfl
theorem zm_208 : zmt[208]? = some (⟨"HandsLetModel", "match", "(I)I"⟩, prog_12_method_82_code, 2, (some (.int)), 10) := rfl
theorem zm_209 : zmt[209]? = some (⟨"HandsLetModel", "bidOf", "(II)I"⟩, prog_12_method_83_code, 3, (some (.int)), 10) := rfl
theorem zm_210 : zmt[210]? = some (⟨"HandsLetModel", "auction", "(II)I"⟩, prog_12_method_84_code, 6, (some (.int)), 10) := rfl
theorem zm_211 : zmt[211]? = some (⟨"HandsLetModel", "isTaken", "(III)Z"⟩, prog_12_method_85_code, 5, (some (.boolean)), 10) := rfl
theorem zm_212 : zmt[212]? = some (⟨"HandsLetModel", "putOff", "()I"⟩, prog_12_method_86_code, 5, (some (.int)), 10) := rfl
theorem zm_213 : zmt[213]? = some (⟨"HandsLetModel", "ring", "(II)I"⟩, prog_12_method_87_code, 7, (some (.int)), 10) := rfl
theorem zm_214 : zmt[214]? = some (⟨"HandsLetModel", "isTaught", "(I)Z"⟩, prog_12_method_88_code, 3, (some (.boolean)), 10) := rfl
theorem zm_215 : zmt[215]? = some (⟨"HandsLetModel", "lessons", "(I)I"⟩, prog_12_method_89_code, 3, (some (.int)), 10) := rfl
theorem zm_216 : zmt[216]? = some (⟨"HandsLetModel", "hasOf", "(IIII)I"⟩, prog_12_method_90_code, 5, (some (.int)), 10) := rfl
theorem zm_217 : zmt[217]? = some (⟨"HandsLetModel", "isRest", "(III)Z"⟩, prog_12_method_91_code, 6, (some (.boolean)), 10) := rfl
theorem zm_218 : zmt[218]? = some (⟨"HandsLetModel", "restOf", "(III)I"⟩, prog_12_method_92_code, 6, (some (.int)), 10) := rfl
theorem zm_219 : zmt[219]? = some (⟨"HandsLetModel", "areTwo", "(II)Z"⟩, prog_12_method_93_code, 3, (some (.boolean)), 10) := rfl
theorem zm_220 : zmt[220]? = some (⟨"HandsLetModel", "rests", "(II)I"⟩, prog_12_method_94_code, 3, (some (.int)), 10) := rfl
theorem zm_221 : zmt[221]? = some (⟨"HandsLetModel", "rest", "(III)I"⟩, prog_12_method_95_code, 4, (some (.int)), 10) := rfl
theorem zm_222 : zmt[222]? = some (⟨"HandsLetModel", "common", "(JJ)J"⟩, prog_12_method_96_code, 10, (some (.long)), 10) := rfl
theorem zm_223 : zmt[223]? = some (⟨"HandsLetModel", "quiet", "(II)J"⟩, prog_12_method_97_code, 9, (some (.long)), 10) := rfl
theorem zm_224 : zmt[224]? = some (⟨"HandsLetModel", "see", "(IIIIZ)I"⟩, prog_12_method_98_code, 6, (some (.int)), 10) := rfl
theorem zm_225 : zmt[225]? = some (⟨"HandsLetModel", "strike", "(I)I"⟩, prog_12_method_99_code, 2, (some (.int)), 10) := rfl
theorem zm_226 : zmt[226]? = some (⟨"HandsLetModel", "known", "(I)Z"⟩, prog_12_method_100_code, 2, (some (.boolean)), 10) := rfl
theorem zm_227 : zmt[227]? = some (⟨"HandsLetModel", "knownMany", "()I"⟩, prog_12_method_101_code, 1, (some (.int)), 10) := rfl
theorem zm_228 : zmt[228]? = some (⟨"HandsLetModel", "isSo", "(I)Z"⟩, prog_12_method_102_code, 3, (some (.boolean)), 10) := rfl
theorem zm_229 : zmt[229]? = some (⟨"HandsLetModel", "fitsWear", "(I)Z"⟩, prog_12_method_103_code, 3, (some (.boolean)), 10) := rfl
theorem zm_230 : zmt[230]? = some (⟨"HandsLetModel", "wearsNow", "()I"⟩, prog_12_method_104_code, 4, (some (.int)), 10) := rfl
theorem zm_231 : zmt[231]? = some (⟨"HandsLetModel", "wears", "()I"⟩, prog_12_method_105_code, 1, (some (.int)), 10) := rfl
theorem zm_232 : zmt[232]? = some (⟨"HandsLetModel", "ask", "(II)I"⟩, prog_12_method_106_code, 9, (some (.int)), 10) := rfl
theorem zm_233 : zmt[233]? = some (⟨"HandsLetModel", "chance", "(III)I"⟩, prog_12_method_107_code, 8, (some (.int)), 10) := rfl
theorem zm_234 : zmt[234]? = some (⟨"HandsLetModel", "tried", "(III)I"⟩, prog_12_method_108_code, 5, (some (.int)), 10) := rfl
theorem zm_235 : zmt[235]? = some (⟨"HandsLetModel", "undo", "()I"⟩, prog_12_method_109_code, 1, (some (.int)), 10) := rfl
theorem zm_236 : zmt[236]? = some (⟨"HandsLetModel", "keep", "()I"⟩, prog_12_method_110_code, 1, (some (.int)), 10) := rfl
theorem zm_237 : zmt[237]? = some (⟨"HandsLetModel", "back", "()I"⟩, prog_12_method_111_code, 1, (some (.int)), 10) := rfl
theorem zm_238 : zmt[238]? = some (⟨"HandsLetModel", "letMany", "()I"⟩, prog_12_method_112_code, 3, (some (.int)), 10) := rfl
theorem zm_239 : zmt[239]? = some (⟨"HandsLetModel", "count", "(I)I"⟩, prog_12_method_113_code, 2, (some (.int)), 10) := rfl
theorem zm_240 : zmt[240]? = some (⟨"java/lang/Integer", "bitCount", "(I)I"⟩, prog_18_method_49_code, 1, (some (.int)), 13) := rfl
theorem zm_241 : zmt[241]? = some (x, code, 7, some .boolean, 11) := rfl
theorem zf_9_12 : zfl 9 12 = some (9, 0) := by decide +kernel
theorem zf_9_21 : zfl 9 21 = some (9, 1) := by decide +kernel
theorem zf_9_25 : zfl 9 25 = some (9, 2) := by decide +kernel
theorem zf_9_31 : zfl 9 31 = some (9, 3) := by decide +kernel
theorem zf_9_35 : zfl 9 35 = some (9, 4) := by decide +kernel
theorem zf_9_38 : zfl 9 38 = some (9, 5) := by decide +kernel
theorem zf_9_44 : zfl 9 44 = some (9, 7) := by decide +kernel
theorem zf_9_51 : zfl 9 51 = some (9, 8) := by decide +kernel
theorem zf_9_58 : zfl 9 58 = some (9, 9) := by decide +kernel
theorem zf_9_65 : zfl 9 65 = some (9, 10) := by decide +kernel
theorem zf_9_69 : zfl 9 69 = some (9, 11) := by decide +kernel
theorem zf_9_73 : zfl 9 73 = some (4, 0) := by decide +kernel
theorem zf_9_77 : zfl 9 77 = some (7, 1) := by decide +kernel
theorem zf_9_91 : zfl 9 91 = some (4, 3) := by decide +kernel
theorem zf_9_98 : zfl 9 98 = some (9, 6) := by decide +kernel
theorem zf_9_106 : zfl 9 106 = some (3, 0) := by decide +kernel
theorem zf_9_109 : zfl 9 109 = some (4, 4) := by decide +kernel
theorem zf_9_116 : zfl 9 116 = some (3, 1) := by decide +kernel
theorem zf_9_119 : zfl 9 119 = some (3, 3) := by decide +kernel
theorem zf_9_129 : zfl 9 129 = some (8, 3) := by decide +kernel
theorem zf_9_132 : zfl 9 132 = some (8, 4) := by decide +kernel
theorem zf_9_135 : zfl 9 135 = some (8, 5) := by decide +kernel
theorem zf_9_138 : zfl 9 138 = some (8, 6) := by decide +kernel
theorem zf_9_147 : zfl 9 147 = some (3, 6) := by decide +kernel
theorem zf_9_148 : zfl 9 148 = some (8, 2) := by decide +kernel
theorem zf_9_157 : zfl 9 157 = some (3, 9) := by decide +kernel
theorem zf_9_161 : zfl 9 161 = some (8, 7) := by decide +kernel
theorem zf_9_167 : zfl 9 167 = some (8, 8) := by decide +kernel
theorem zf_9_170 : zfl 9 170 = some (8, 9) := by decide +kernel
theorem zf_9_173 : zfl 9 173 = some (8, 10) := by decide +kernel
theorem zf_9_181 : zfl 9 181 = some (0, 0) := by decide +kernel
theorem zf_9_224 : zfl 9 224 = some (8, 0) := by decide +kernel
theorem zf_9_237 : zfl 9 237 = some (8, 11) := by decide +kernel
theorem zf_9_240 : zfl 9 240 = some (8, 12) := by decide +kernel
theorem zf_9_243 : zfl 9 243 = some (8, 13) := by decide +kernel
theorem zf_9_259 : zfl 9 259 = some (2, 3) := by decide +kernel
theorem zf_9_262 : zfl 9 262 = some (2, 4) := by decide +kernel
theorem zf_9_265 : zfl 9 265 = some (2, 2) := by decide +kernel
theorem zf_9_300 : zfl 9 300 = some (3, 10) := by decide +kernel
theorem zf_9_306 : zfl 9 306 = some (8, 1) := by decide +kernel
theorem zf_9_310 : zfl 9 310 = some (0, 5) := by decide +kernel
theorem zf_9_313 : zfl 9 313 = some (0, 6) := by decide +kernel
theorem zf_9_316 : zfl 9 316 = some (0, 7) := by decide +kernel
theorem zf_9_339 : zfl 9 339 = some (0, 4) := by decide +kernel
theorem zf_9_342 : zfl 9 342 = some (5, 1) := by decide +kernel
theorem zf_9_364 : zfl 9 364 = some (3, 2) := by decide +kernel
theorem zf_9_367 : zfl 9 367 = some (3, 4) := by decide +kernel
theorem zf_9_373 : zfl 9 373 = some (8, 14) := by decide +kernel
theorem zf_9_376 : zfl 9 376 = some (5, 0) := by decide +kernel
theorem zf_9_382 : zfl 9 382 = some (1, 2) := by decide +kernel
theorem zf_0_12 : zfl 0 12 = some (0, 0) := by decide +kernel
theorem zf_0_18 : zfl 0 18 = some (0, 1) := by decide +kernel
theorem zf_0_22 : zfl 0 22 = some (0, 2) := by decide +kernel
theorem zf_0_26 : zfl 0 26 = some (0, 3) := by decide +kernel
theorem zf_0_30 : zfl 0 30 = some (3, 10) := by decide +kernel
theorem zf_0_36 : zfl 0 36 = some (0, 4) := by decide +kernel
theorem zf_0_39 : zfl 0 39 = some (0, 5) := by decide +kernel
theorem zf_0_42 : zfl 0 42 = some (0, 6) := by decide +kernel
theorem zf_0_46 : zfl 0 46 = some (0, 7) := by decide +kernel
theorem zf_0_52 : zfl 0 52 = some (8, 0) := by decide +kernel
theorem zf_0_60 : zfl 0 60 = some (8, 11) := by decide +kernel
theorem zf_0_73 : zfl 0 73 = some (3, 1) := by decide +kernel
theorem zf_0_80 : zfl 0 80 = some (8, 5) := by decide +kernel
theorem zf_0_87 : zfl 0 87 = some (3, 2) := by decide +kernel
theorem zf_0_90 : zfl 0 90 = some (3, 8) := by decide +kernel
theorem zf_0_106 : zfl 0 106 = some (8, 14) := by decide +kernel
theorem zf_0_109 : zfl 0 109 = some (3, 3) := by decide +kernel
theorem zf_0_112 : zfl 0 112 = some (3, 9) := by decide +kernel
theorem zf_0_123 : zfl 0 123 = some (8, 3) := by decide +kernel
theorem zf_0_126 : zfl 0 126 = some (3, 6) := by decide +kernel
theorem zf_0_127 : zfl 0 127 = some (8, 10) := by decide +kernel
theorem zf_0_133 : zfl 0 133 = some (8, 8) := by decide +kernel
theorem zf_0_136 : zfl 0 136 = some (8, 12) := by decide +kernel
theorem zf_0_139 : zfl 0 139 = some (8, 7) := by decide +kernel
theorem zf_0_146 : zfl 0 146 = some (8, 9) := by decide +kernel
theorem zf_0_149 : zfl 0 149 = some (8, 13) := by decide +kernel
theorem zf_0_152 : zfl 0 152 = some (8, 2) := by decide +kernel
theorem zf_0_161 : zfl 0 161 = some (8, 4) := by decide +kernel
theorem zf_0_164 : zfl 0 164 = some (8, 6) := by decide +kernel
theorem zf_1_11 : zfl 1 11 = some (1, 0) := by decide +kernel
theorem zf_1_15 : zfl 1 15 = some (1, 2) := by decide +kernel
theorem zf_1_19 : zfl 1 19 = some (1, 1) := by decide +kernel
theorem zf_1_22 : zfl 1 22 = some (8, 4) := by decide +kernel
theorem zf_1_27 : zfl 1 27 = some (8, 5) := by decide +kernel
theorem zf_1_30 : zfl 1 30 = some (8, 6) := by decide +kernel
theorem zf_1_33 : zfl 1 33 = some (8, 3) := by decide +kernel
theorem zf_1_42 : zfl 1 42 = some (8, 2) := by decide +kernel
theorem zf_2_9 : zfl 2 9 = some (2, 0) := by decide +kernel
theorem zf_2_17 : zfl 2 17 = some (2, 1) := by decide +kernel
theorem zf_2_20 : zfl 2 20 = some (2, 2) := by decide +kernel
theorem zf_2_45 : zfl 2 45 = some (2, 3) := by decide +kernel
theorem zf_2_49 : zfl 2 49 = some (2, 4) := by decide +kernel
theorem zf_3_9 : zfl 3 9 = some (3, 5) := by decide +kernel
theorem zf_3_15 : zfl 3 15 = some (3, 6) := by decide +kernel
theorem zf_3_18 : zfl 3 18 = some (3, 7) := by decide +kernel
theorem zf_3_23 : zfl 3 23 = some (3, 8) := by decide +kernel
theorem zf_3_26 : zfl 3 26 = some (3, 9) := by decide +kernel
theorem zf_3_29 : zfl 3 29 = some (3, 10) := by decide +kernel
theorem zf_3_32 : zfl 3 32 = some (3, 11) := by decide +kernel
theorem zf_3_35 : zfl 3 35 = some (3, 12) := by decide +kernel
theorem zf_3_38 : zfl 3 38 = some (3, 13) := by decide +kernel
theorem zf_3_41 : zfl 3 41 = some (3, 14) := by decide +kernel
theorem zf_3_44 : zfl 3 44 = some (3, 0) := by decide +kernel
theorem zf_3_48 : zfl 3 48 = some (3, 1) := by decide +kernel
theorem zf_3_51 : zfl 3 51 = some (3, 2) := by decide +kernel
theorem zf_3_54 : zfl 3 54 = some (3, 3) := by decide +kernel
theorem zf_3_57 : zfl 3 57 = some (3, 4) := by decide +kernel
theorem zf_4_12 : zfl 4 12 = some (4, 0) := by decide +kernel
theorem zf_4_18 : zfl 4 18 = some (4, 4) := by decide +kernel
theorem zf_4_22 : zfl 4 22 = some (4, 5) := by decide +kernel
theorem zf_4_26 : zfl 4 26 = some (4, 1) := by decide +kernel
theorem zf_4_35 : zfl 4 35 = some (4, 2) := by decide +kernel
theorem zf_4_38 : zfl 4 38 = some (4, 8) := by decide +kernel
theorem zf_4_41 : zfl 4 41 = some (4, 3) := by decide +kernel
theorem zf_4_48 : zfl 4 48 = some (7, 5) := by decide +kernel
theorem zf_4_69 : zfl 4 69 = some (3, 0) := by decide +kernel
theorem zf_4_72 : zfl 4 72 = some (7, 6) := by decide +kernel
theorem zf_4_81 : zfl 4 81 = some (7, 7) := by decide +kernel
theorem zf_4_88 : zfl 4 88 = some (3, 1) := by decide +kernel
theorem zf_4_91 : zfl 4 91 = some (3, 5) := by decide +kernel
theorem zf_4_98 : zfl 4 98 = some (3, 6) := by decide +kernel
theorem zf_4_105 : zfl 4 105 = some (3, 7) := by decide +kernel
theorem zf_4_108 : zfl 4 108 = some (3, 2) := by decide +kernel
theorem zf_4_111 : zfl 4 111 = some (3, 8) := by decide +kernel
theorem zf_4_118 : zfl 4 118 = some (3, 3) := by decide +kernel
theorem zf_4_121 : zfl 4 121 = some (3, 9) := by decide +kernel
theorem zf_4_127 : zfl 4 127 = some (3, 10) := by decide +kernel
theorem zf_4_131 : zfl 4 131 = some (3, 11) := by decide +kernel
theorem zf_4_134 : zfl 4 134 = some (4, 6) := by decide +kernel
theorem zf_4_137 : zfl 4 137 = some (4, 7) := by decide +kernel
theorem zf_4_150 : zfl 4 150 = some (3, 12) := by decide +kernel
theorem zf_4_172 : zfl 4 172 = some (3, 4) := by decide +kernel
theorem zf_4_175 : zfl 4 175 = some (3, 13) := by decide +kernel
theorem zf_4_178 : zfl 4 178 = some (3, 14) := by decide +kernel
theorem zf_5_9 : zfl 5 9 = some (5, 2) := by decide +kernel
theorem zf_5_15 : zfl 5 15 = some (5, 3) := by decide +kernel
theorem zf_5_19 : zfl 5 19 = some (5, 4) := by decide +kernel
theorem zf_5_22 : zfl 5 22 = some (5, 5) := by decide +kernel
theorem zf_5_25 : zfl 5 25 = some (5, 6) := by decide +kernel
theorem zf_5_29 : zfl 5 29 = some (5, 7) := by decide +kernel
theorem zf_5_32 : zfl 5 32 = some (5, 8) := by decide +kernel
theorem zf_5_35 : zfl 5 35 = some (5, 0) := by decide +kernel
theorem zf_5_42 : zfl 5 42 = some (5, 1) := by decide +kernel
theorem zf_6_9 : zfl 6 9 = some (6, 0) := by decide +kernel
theorem zf_6_15 : zfl 6 15 = some (6, 1) := by decide +kernel
theorem zf_6_18 : zfl 6 18 = some (8, 3) := by decide +kernel
theorem zf_6_24 : zfl 6 24 = some (8, 2) := by decide +kernel
theorem zf_6_27 : zfl 6 27 = some (8, 6) := by decide +kernel
theorem zf_6_30 : zfl 6 30 = some (8, 0) := by decide +kernel
theorem zf_6_34 : zfl 6 34 = some (3, 11) := by decide +kernel
theorem zf_6_39 : zfl 6 39 = some (3, 12) := by decide +kernel
theorem zf_6_42 : zfl 6 42 = some (3, 13) := by decide +kernel
theorem zf_6_45 : zfl 6 45 = some (3, 14) := by decide +kernel
theorem zf_7_9 : zfl 7 9 = some (7, 0) := by decide +kernel
theorem zf_7_15 : zfl 7 15 = some (7, 2) := by decide +kernel
theorem zf_7_35 : zfl 7 35 = some (7, 1) := by decide +kernel
theorem zf_7_44 : zfl 7 44 = some (7, 3) := by decide +kernel
theorem zf_7_46 : zfl 7 46 = some (7, 4) := by decide +kernel
theorem zf_7_52 : zfl 7 52 = some (7, 6) := by decide +kernel
theorem zf_7_55 : zfl 7 55 = some (7, 7) := by decide +kernel
theorem zf_7_58 : zfl 7 58 = some (7, 5) := by decide +kernel
theorem zf_8_9 : zfl 8 9 = some (8, 2) := by decide +kernel
theorem zf_8_15 : zfl 8 15 = some (8, 3) := by decide +kernel
theorem zf_8_18 : zfl 8 18 = some (8, 4) := by decide +kernel
theorem zf_8_21 : zfl 8 21 = some (8, 5) := by decide +kernel
theorem zf_8_24 : zfl 8 24 = some (8, 6) := by decide +kernel
theorem zf_8_27 : zfl 8 27 = some (8, 7) := by decide +kernel
theorem zf_8_30 : zfl 8 30 = some (8, 8) := by decide +kernel
theorem zf_8_33 : zfl 8 33 = some (8, 9) := by decide +kernel
theorem zf_8_36 : zfl 8 36 = some (8, 10) := by decide +kernel
theorem zf_8_39 : zfl 8 39 = some (8, 0) := by decide +kernel
theorem zf_8_43 : zfl 8 43 = some (3, 10) := by decide +kernel
theorem zf_8_48 : zfl 8 48 = some (8, 1) := by decide +kernel
theorem zf_8_52 : zfl 8 52 = some (3, 1) := by decide +kernel
theorem zf_8_55 : zfl 8 55 = some (3, 7) := by decide +kernel
theorem zf_8_56 : zfl 8 56 = some (3, 6) := by decide +kernel
theorem zf_8_57 : zfl 8 57 = some (8, 11) := by decide +kernel
theorem zf_8_60 : zfl 8 60 = some (8, 12) := by decide +kernel
theorem zf_8_63 : zfl 8 63 = some (8, 13) := by decide +kernel
theorem zf_8_66 : zfl 8 66 = some (8, 14) := by decide +kernel
theorem zf_10_7 : zfl 10 7 = some (10, 1) := by decide +kernel
theorem zf_10_13 : zfl 10 13 = some (10, 3) := by decide +kernel
theorem zf_10_16 : zfl 10 16 = some (10, 4) := by decide +kernel
theorem zf_10_19 : zfl 10 19 = some (10, 5) := by decide +kernel
theorem zf_10_22 : zfl 10 22 = some (10, 6) := by decide +kernel
theorem zf_10_25 : zfl 10 25 = some (10, 7) := by decide +kernel
theorem zf_10_28 : zfl 10 28 = some (10, 8) := by decide +kernel
theorem zf_10_31 : zfl 10 31 = some (10, 9) := by decide +kernel
theorem zf_10_34 : zfl 10 34 = some (10, 10) := by decide +kernel
theorem zf_10_37 : zfl 10 37 = some (10, 11) := by decide +kernel
theorem zf_10_40 : zfl 10 40 = some (10, 12) := by decide +kernel
theorem zf_10_43 : zfl 10 43 = some (10, 13) := by decide +kernel
theorem zf_10_46 : zfl 10 46 = some (10, 14) := by decide +kernel
theorem zf_10_49 : zfl 10 49 = some (10, 15) := by decide +kernel
theorem zf_10_52 : zfl 10 52 = some (10, 16) := by decide +kernel
theorem zf_10_55 : zfl 10 55 = some (10, 17) := by decide +kernel
theorem zf_10_58 : zfl 10 58 = some (10, 18) := by decide +kernel
theorem zf_10_61 : zfl 10 61 = some (10, 29) := by decide +kernel
theorem zf_10_65 : zfl 10 65 = some (10, 32) := by decide +kernel
theorem zf_10_69 : zfl 10 69 = some (10, 33) := by decide +kernel
theorem zf_10_72 : zfl 10 72 = some (10, 35) := by decide +kernel
theorem zf_10_75 : zfl 10 75 = some (10, 36) := by decide +kernel
theorem zf_10_78 : zfl 10 78 = some (10, 37) := by decide +kernel
theorem zf_10_81 : zfl 10 81 = some (10, 38) := by decide +kernel
theorem zf_10_84 : zfl 10 84 = some (10, 39) := by decide +kernel
theorem zf_10_87 : zfl 10 87 = some (10, 40) := by decide +kernel
theorem zf_10_90 : zfl 10 90 = some (10, 41) := by decide +kernel
theorem zf_10_93 : zfl 10 93 = some (10, 42) := by decide +kernel
theorem zf_10_96 : zfl 10 96 = some (10, 43) := by decide +kernel
theorem zf_10_99 : zfl 10 99 = some (10, 44) := by decide +kernel
theorem zf_10_102 : zfl 10 102 = some (10, 45) := by decide +kernel
theorem zf_10_105 : zfl 10 105 = some (10, 46) := by decide +kernel
theorem zf_10_108 : zfl 10 108 = some (10, 50) := by decide +kernel
theorem zf_10_111 : zfl 10 111 = some (10, 51) := by decide +kernel
theorem zf_10_114 : zfl 10 114 = some (10, 52) := by decide +kernel
theorem zf_10_117 : zfl 10 117 = some (10, 53) := by decide +kernel
theorem zf_10_120 : zfl 10 120 = some (10, 56) := by decide +kernel
theorem zf_10_123 : zfl 10 123 = some (10, 58) := by decide +kernel
theorem zf_10_126 : zfl 10 126 = some (10, 59) := by decide +kernel
theorem zf_10_129 : zfl 10 129 = some (10, 60) := by decide +kernel
theorem zf_10_132 : zfl 10 132 = some (10, 61) := by decide +kernel
theorem zf_10_135 : zfl 10 135 = some (10, 62) := by decide +kernel
theorem zf_10_139 : zfl 10 139 = some (10, 63) := by decide +kernel
theorem zf_10_142 : zfl 10 142 = some (10, 64) := by decide +kernel
theorem zf_10_145 : zfl 10 145 = some (10, 65) := by decide +kernel
theorem zf_10_151 : zfl 10 151 = some (10, 0) := by decide +kernel
theorem zf_10_154 : zfl 10 154 = some (10, 2) := by decide +kernel
theorem zf_10_157 : zfl 10 157 = some (10, 22) := by decide +kernel
theorem zf_10_160 : zfl 10 160 = some (10, 21) := by decide +kernel
theorem zf_10_167 : zfl 10 167 = some (10, 23) := by decide +kernel
theorem zf_10_170 : zfl 10 170 = some (10, 24) := by decide +kernel
theorem zf_10_180 : zfl 10 180 = some (10, 25) := by decide +kernel
theorem zf_10_205 : zfl 10 205 = some (10, 26) := by decide +kernel
theorem zf_10_208 : zfl 10 208 = some (10, 27) := by decide +kernel
theorem zf_10_234 : zfl 10 234 = some (10, 19) := by decide +kernel
theorem zf_10_261 : zfl 10 261 = some (10, 20) := by decide +kernel
theorem zf_10_267 : zfl 10 267 = some (10, 31) := by decide +kernel
theorem zf_10_294 : zfl 10 294 = some (10, 30) := by decide +kernel
theorem zf_10_300 : zfl 10 300 = some (10, 28) := by decide +kernel
theorem zf_10_307 : zfl 10 307 = some (10, 57) := by decide +kernel
theorem zf_10_310 : zfl 10 310 = some (10, 47) := by decide +kernel
theorem zf_10_314 : zfl 10 314 = some (10, 48) := by decide +kernel
theorem zf_10_317 : zfl 10 317 = some (10, 34) := by decide +kernel
theorem zf_10_357 : zfl 10 357 = some (10, 49) := by decide +kernel
theorem zf_10_448 : zfl 10 448 = some (10, 54) := by decide +kernel
theorem zf_10_451 : zfl 10 451 = some (10, 55) := by decide +kernel
theorem zc_9_83 : zca 9 83 = some (57, 1, 0) := by decide +kernel
theorem zc_9_87 : zca 9 87 = some (22, 2, 0) := by decide +kernel
theorem zc_9_94 : zca 9 94 = some (67, 1, 0) := by decide +kernel
theorem zc_9_102 : zca 9 102 = some (43, 0, 0) := by decide +kernel
theorem zc_9_105 : zca 9 105 = some (11, 0, 0) := by decide +kernel
theorem zc_9_112 : zca 9 112 = some (21, 1, 0) := by decide +kernel
theorem zc_9_122 : zca 9 122 = some (80, 1, 0) := by decide +kernel
theorem zc_9_141 : zca 9 141 = some (70, 1, 0) := by decide +kernel
theorem zc_9_151 : zca 9 151 = some (83, 1, 0) := by decide +kernel
theorem zc_9_154 : zca 9 154 = some (84, 1, 0) := by decide +kernel
theorem zc_9_164 : zca 9 164 = some (81, 1, 0) := by decide +kernel
theorem zc_9_178 : zca 9 178 = some (87, 1, 1) := by decide +kernel
theorem zc_9_185 : zca 9 185 = some (50, 4, 0) := by decide +kernel
theorem zc_9_191 : zca 9 191 = some (51, 2, 0) := by decide +kernel
theorem zc_9_195 : zca 9 195 = some (0, 3, 0) := by decide +kernel
theorem zc_9_198 : zca 9 198 = some (10, 4, 0) := by decide +kernel
theorem zc_9_202 : zca 9 202 = some (71, 3, 0) := by decide +kernel
theorem zc_9_206 : zca 9 206 = some (12, 2, 0) := by decide +kernel
theorem zc_9_210 : zca 9 210 = some (72, 4, 0) := by decide +kernel
theorem zc_9_214 : zca 9 214 = some (69, 1, 0) := by decide +kernel
theorem zc_9_217 : zca 9 217 = some (9, 1, 0) := by decide +kernel
theorem zc_9_220 : zca 9 220 = some (95, 3, 0) := by decide +kernel
theorem zc_9_227 : zca 9 227 = some (1, 1, 0) := by decide +kernel
theorem zc_9_230 : zca 9 230 = some (68, 1, 0) := by decide +kernel
theorem zc_9_234 : zca 9 234 = some (92, 1, 0) := by decide +kernel
theorem zc_9_246 : zca 9 246 = some (1012, 1, 2) := by decide +kernel
theorem zc_9_252 : zca 9 252 = some (14, 3, 0) := by decide +kernel
theorem zc_9_256 : zca 9 256 = some (15, 1, 0) := by decide +kernel
theorem zc_9_268 : zca 9 268 = some (101, 2, 0) := by decide +kernel
theorem zc_9_272 : zca 9 272 = some (102, 2, 0) := by decide +kernel
theorem zc_9_275 : zca 9 275 = some (1011, 2, 2) := by decide +kernel
theorem zc_9_278 : zca 9 278 = some (1010, 2, 2) := by decide +kernel
theorem zc_9_281 : zca 9 281 = some (104, 1, 0) := by decide +kernel
theorem zc_9_284 : zca 9 284 = some (105, 2, 0) := by decide +kernel
theorem zc_9_287 : zca 9 287 = some (109, 4, 0) := by decide +kernel
theorem zc_9_290 : zca 9 290 = some (108, 2, 0) := by decide +kernel
theorem zc_9_294 : zca 9 294 = some (110, 4, 0) := by decide +kernel
theorem zc_9_303 : zca 9 303 = some (114, 2, 1) := by decide +kernel
theorem zc_9_319 : zca 9 319 = some (74, 0, 0) := by decide +kernel
theorem zc_9_323 : zca 9 323 = some (44, 4, 0) := by decide +kernel
theorem zc_9_327 : zca 9 327 = some (45, 1, 0) := by decide +kernel
theorem zc_9_330 : zca 9 330 = some (46, 1, 0) := by decide +kernel
theorem zc_9_333 : zca 9 333 = some (48, 0, 0) := by decide +kernel
theorem zc_9_336 : zca 9 336 = some (121, 1, 0) := by decide +kernel
theorem zc_9_345 : zca 9 345 = some (2, 0, 0) := by decide +kernel
theorem zc_9_348 : zca 9 348 = some (49, 2, 0) := by decide +kernel
theorem zc_9_352 : zca 9 352 = some (123, 2, 0) := by decide +kernel
theorem zc_9_355 : zca 9 355 = some (240, 1, 1) := by decide +kernel
theorem zc_9_360 : zca 9 360 = some (13, 1, 0) := by decide +kernel
theorem zc_9_370 : zca 9 370 = some (75, 0, 0) := by decide +kernel
theorem zc_9_379 : zca 9 379 = some (47, 0, 0) := by decide +kernel
theorem zc_0_49 : zca 0 49 = some (2, 0, 0) := by decide +kernel
theorem zc_0_57 : zca 0 57 = some (3, 0, 0) := by decide +kernel
theorem zc_0_63 : zca 0 63 = some (4, 0, 0) := by decide +kernel
theorem zc_0_66 : zca 0 66 = some (7, 0, 0) := by decide +kernel
theorem zc_0_70 : zca 0 70 = some (8, 0, 0) := by decide +kernel
theorem zc_0_76 : zca 0 76 = some (69, 1, 0) := by decide +kernel
theorem zc_0_83 : zca 0 83 = some (9, 1, 0) := by decide +kernel
theorem zc_0_94 : zca 0 94 = some (10, 4, 0) := by decide +kernel
theorem zc_0_98 : zca 0 98 = some (71, 3, 0) := by decide +kernel
theorem zc_0_102 : zca 0 102 = some (72, 4, 0) := by decide +kernel
theorem zc_0_115 : zca 0 115 = some (5, 3, 0) := by decide +kernel
theorem zc_0_119 : zca 0 119 = some (70, 1, 0) := by decide +kernel
theorem zc_0_130 : zca 0 130 = some (6, 1, 0) := by decide +kernel
theorem zc_0_142 : zca 0 142 = some (73, 0, 0) := by decide +kernel
theorem zc_0_155 : zca 0 155 = some (1010, 2, 2) := by decide +kernel
theorem zc_0_167 : zca 0 167 = some (50, 4, 0) := by decide +kernel
theorem zc_0_171 : zca 0 171 = some (51, 2, 0) := by decide +kernel
theorem zc_0_181 : zca 0 181 = some (1014, 2, 2) := by decide +kernel
theorem zc_0_185 : zca 0 185 = some (1013, 2, 2) := by decide +kernel
theorem zc_1_36 : zca 1 36 = some (1002, 5, 2) := by decide +kernel
theorem zc_1_45 : zca 1 45 = some (1011, 2, 2) := by decide +kernel
theorem zc_2_23 : zca 2 23 = some (16, 3, 0) := by decide +kernel
theorem zc_2_27 : zca 2 27 = some (19, 1, 0) := by decide +kernel
theorem zc_2_31 : zca 2 31 = some (17, 3, 0) := by decide +kernel
theorem zc_2_35 : zca 2 35 = some (18, 3, 0) := by decide +kernel
theorem zc_2_38 : zca 2 38 = some (1010, 2, 2) := by decide +kernel
theorem zc_4_30 : zca 4 30 = some (20, 0, 0) := by decide +kernel
theorem zc_4_44 : zca 4 44 = some (58, 1, 0) := by decide +kernel
theorem zc_4_51 : zca 4 51 = some (28, 0, 0) := by decide +kernel
theorem zc_4_54 : zca 4 54 = some (29, 0, 0) := by decide +kernel
theorem zc_4_57 : zca 4 57 = some (30, 0, 0) := by decide +kernel
theorem zc_4_60 : zca 4 60 = some (33, 0, 0) := by decide +kernel
theorem zc_4_63 : zca 4 63 = some (31, 0, 0) := by decide +kernel
theorem zc_4_66 : zca 4 66 = some (24, 1, 0) := by decide +kernel
theorem zc_4_75 : zca 4 75 = some (59, 0, 0) := by decide +kernel
theorem zc_4_78 : zca 4 78 = some (23, 1, 0) := by decide +kernel
theorem zc_4_84 : zca 4 84 = some (21, 1, 0) := by decide +kernel
theorem zc_4_94 : zca 4 94 = some (26, 0, 0) := by decide +kernel
theorem zc_4_101 : zca 4 101 = some (25, 2, 0) := by decide +kernel
theorem zc_4_115 : zca 4 115 = some (27, 1, 0) := by decide +kernel
theorem zc_4_124 : zca 4 124 = some (32, 1, 0) := by decide +kernel
theorem zc_4_140 : zca 4 140 = some (34, 0, 0) := by decide +kernel
theorem zc_4_144 : zca 4 144 = some (36, 0, 0) := by decide +kernel
theorem zc_4_147 : zca 4 147 = some (41, 1, 0) := by decide +kernel
theorem zc_4_153 : zca 4 153 = some (35, 0, 0) := by decide +kernel
theorem zc_4_156 : zca 4 156 = some (38, 0, 0) := by decide +kernel
theorem zc_4_159 : zca 4 159 = some (40, 2, 0) := by decide +kernel
theorem zc_4_163 : zca 4 163 = some (39, 1, 0) := by decide +kernel
theorem zc_4_166 : zca 4 166 = some (42, 1, 1) := by decide +kernel
theorem zc_4_169 : zca 4 169 = some (37, 2, 0) := by decide +kernel
theorem zc_5_38 : zca 5 38 = some (47, 0, 0) := by decide +kernel
theorem zc_5_45 : zca 5 45 = some (1010, 2, 2) := by decide +kernel
theorem zc_6_48 : zca 6 48 = some (52, 1, 1) := by decide +kernel
theorem zc_6_52 : zca 6 52 = some (53, 3, 1) := by decide +kernel
theorem zc_6_58 : zca 6 58 = some (54, 1, 1) := by decide +kernel
theorem zc_6_62 : zca 6 62 = some (55, 2, 1) := by decide +kernel
theorem zc_7_21 : zca 7 21 = some (1000, 0, 2) := by decide +kernel
theorem zc_7_27 : zca 7 27 = some (1001, 1, 2) := by decide +kernel
theorem zc_7_31 : zca 7 31 = some (56, 2, 1) := by decide +kernel
theorem zc_7_39 : zca 7 39 = some (1011, 2, 2) := by decide +kernel
theorem zc_7_49 : zca 7 49 = some (59, 0, 0) := by decide +kernel
theorem zc_7_61 : zca 7 61 = some (60, 1, 1) := by decide +kernel
theorem zc_7_65 : zca 7 65 = some (62, 0, 0) := by decide +kernel
theorem zc_7_68 : zca 7 68 = some (61, 1, 1) := by decide +kernel
theorem zc_7_71 : zca 7 71 = some (64, 0, 0) := by decide +kernel
theorem zc_7_74 : zca 7 74 = some (65, 0, 0) := by decide +kernel
theorem zc_7_77 : zca 7 77 = some (63, 1, 0) := by decide +kernel
theorem zc_7_82 : zca 7 82 = some (66, 1, 1) := by decide +kernel
theorem zc_8_69 : zca 8 69 = some (1002, 5, 2) := by decide +kernel
theorem zc_8_75 : zca 8 75 = some (69, 1, 0) := by decide +kernel
theorem zc_8_79 : zca 8 79 = some (1011, 2, 2) := by decide +kernel
theorem zc_11_21 : zca 11 21 = some (76, 5, 0) := by decide +kernel
theorem zc_11_25 : zca 11 25 = some (129, 5, 0) := by decide +kernel
theorem zc_11_26 : zca 11 26 = some (77, 1, 0) := by decide +kernel
theorem zc_11_30 : zca 11 30 = some (161, 1, 0) := by decide +kernel
theorem zc_11_31 : zca 11 31 = some (78, 1, 0) := by decide +kernel
theorem zc_11_34 : zca 11 34 = some (162, 1, 0) := by decide +kernel
theorem zc_11_35 : zca 11 35 = some (79, 1, 0) := by decide +kernel
theorem zc_11_38 : zca 11 38 = some (163, 1, 0) := by decide +kernel
theorem zc_11_39 : zca 11 39 = some (1003, 4, 2) := by decide +kernel
theorem zc_11_44 : zca 11 44 = some (191, 2, 0) := by decide +kernel
theorem zc_11_45 : zca 11 45 = some (128, 0, 0) := by decide +kernel
theorem zc_11_49 : zca 11 49 = some (82, 2, 0) := by decide +kernel
theorem zc_11_52 : zca 11 52 = some (193, 2, 0) := by decide +kernel
theorem zc_11_53 : zca 11 53 = some (85, 2, 0) := by decide +kernel
theorem zc_11_56 : zca 11 56 = some (194, 2, 0) := by decide +kernel
theorem zc_11_57 : zca 11 57 = some (86, 4, 0) := by decide +kernel
theorem zc_11_61 : zca 11 61 = some (195, 4, 0) := by decide +kernel
theorem zc_11_62 : zca 11 62 = some (88, 4, 0) := by decide +kernel
theorem zc_11_66 : zca 11 66 = some (197, 4, 0) := by decide +kernel
theorem zc_11_67 : zca 11 67 = some (89, 1, 0) := by decide +kernel
theorem zc_11_70 : zca 11 70 = some (198, 1, 0) := by decide +kernel
theorem zc_11_71 : zca 11 71 = some (90, 1, 0) := by decide +kernel
theorem zc_11_74 : zca 11 74 = some (200, 1, 0) := by decide +kernel
theorem zc_11_75 : zca 11 75 = some (91, 1, 0) := by decide +kernel
theorem zc_11_78 : zca 11 78 = some (201, 1, 0) := by decide +kernel
theorem zc_11_79 : zca 11 79 = some (93, 3, 0) := by decide +kernel
theorem zc_11_83 : zca 11 83 = some (202, 3, 0) := by decide +kernel
theorem zc_11_84 : zca 11 84 = some (94, 1, 0) := by decide +kernel
theorem zc_11_87 : zca 11 87 = some (203, 1, 0) := by decide +kernel
theorem zc_11_88 : zca 11 88 = some (96, 2, 0) := by decide +kernel
theorem zc_11_91 : zca 11 91 = some (204, 2, 0) := by decide +kernel
theorem zc_11_92 : zca 11 92 = some (97, 1, 0) := by decide +kernel
theorem zc_11_95 : zca 11 95 = some (205, 1, 0) := by decide +kernel
theorem zc_11_96 : zca 11 96 = some (98, 2, 0) := by decide +kernel
theorem zc_11_99 : zca 11 99 = some (206, 2, 0) := by decide +kernel
theorem zc_11_100 : zca 11 100 = some (99, 1, 0) := by decide +kernel
theorem zc_11_103 : zca 11 103 = some (208, 1, 0) := by decide +kernel
theorem zc_11_104 : zca 11 104 = some (100, 2, 0) := by decide +kernel
theorem zc_11_107 : zca 11 107 = some (210, 2, 0) := by decide +kernel
theorem zc_11_108 : zca 11 108 = some (103, 0, 0) := by decide +kernel
theorem zc_11_111 : zca 11 111 = some (212, 0, 0) := by decide +kernel
theorem zc_11_112 : zca 11 112 = some (106, 2, 0) := by decide +kernel
theorem zc_11_115 : zca 11 115 = some (213, 2, 0) := by decide +kernel
theorem zc_11_116 : zca 11 116 = some (107, 1, 0) := by decide +kernel
theorem zc_11_119 : zca 11 119 = some (215, 1, 0) := by decide +kernel
theorem zc_11_120 : zca 11 120 = some (111, 2, 0) := by decide +kernel
theorem zc_11_123 : zca 11 123 = some (220, 2, 0) := by decide +kernel
theorem zc_11_124 : zca 11 124 = some (112, 3, 0) := by decide +kernel
theorem zc_11_127 : zca 11 127 = some (221, 3, 0) := by decide +kernel
theorem zc_11_128 : zca 11 128 = some (113, 2, 0) := by decide +kernel
theorem zc_11_132 : zca 11 132 = some (223, 2, 0) := by decide +kernel
theorem zc_11_133 : zca 11 133 = some (117, 5, 0) := by decide +kernel
theorem zc_11_137 : zca 11 137 = some (224, 5, 0) := by decide +kernel
theorem zc_11_138 : zca 11 138 = some (118, 1, 0) := by decide +kernel
theorem zc_11_141 : zca 11 141 = some (225, 1, 0) := by decide +kernel
theorem zc_11_142 : zca 11 142 = some (119, 1, 0) := by decide +kernel
theorem zc_11_146 : zca 11 146 = some (226, 1, 0) := by decide +kernel
theorem zc_11_147 : zca 11 147 = some (120, 0, 0) := by decide +kernel
theorem zc_11_150 : zca 11 150 = some (231, 0, 0) := by decide +kernel
theorem zc_11_151 : zca 11 151 = some (122, 2, 0) := by decide +kernel
theorem zc_11_154 : zca 11 154 = some (232, 2, 0) := by decide +kernel
theorem zc_11_155 : zca 11 155 = some (115, 3, 0) := by decide +kernel
theorem zc_11_158 : zca 11 158 = some (233, 3, 0) := by decide +kernel
theorem zc_11_159 : zca 11 159 = some (116, 3, 0) := by decide +kernel
theorem zc_11_162 : zca 11 162 = some (234, 3, 0) := by decide +kernel
theorem zc_11_163 : zca 11 163 = some (124, 0, 0) := by decide +kernel
theorem zc_11_166 : zca 11 166 = some (235, 0, 0) := by decide +kernel
theorem zc_11_167 : zca 11 167 = some (125, 0, 0) := by decide +kernel
theorem zc_11_170 : zca 11 170 = some (236, 0, 0) := by decide +kernel
theorem zc_11_171 : zca 11 171 = some (126, 0, 0) := by decide +kernel
theorem zc_11_174 : zca 11 174 = some (237, 0, 0) := by decide +kernel
theorem zc_11_175 : zca 11 175 = some (127, 1, 0) := by decide +kernel
theorem zc_11_178 : zca 11 178 = some (239, 1, 0) := by decide +kernel
theorem zc_10_148 : zca 10 148 = some (169, 0, 0) := by decide +kernel
theorem zc_10_163 : zca 10 163 = some (130, 0, 0) := by decide +kernel
theorem zc_10_173 : zca 10 173 = some (131, 1, 1) := by decide +kernel
theorem zc_10_177 : zca 10 177 = some (135, 0, 0) := by decide +kernel
theorem zc_10_183 : zca 10 183 = some (136, 0, 0) := by decide +kernel
theorem zc_10_186 : zca 10 186 = some (132, 1, 1) := by decide +kernel
theorem zc_10_190 : zca 10 190 = some (134, 1, 0) := by decide +kernel
theorem zc_10_196 : zca 10 196 = some (1000, 0, 2) := by decide +kernel
theorem zc_10_201 : zca 10 201 = some (1001, 1, 2) := by decide +kernel
theorem zc_10_211 : zca 10 211 = some (133, 0, 0) := by decide +kernel
theorem zc_10_214 : zca 10 214 = some (137, 1, 0) := by decide +kernel
theorem zc_10_217 : zca 10 217 = some (142, 4, 1) := by decide +kernel
theorem zc_10_221 : zca 10 221 = some (144, 1, 0) := by decide +kernel
theorem zc_10_225 : zca 10 225 = some (146, 0, 0) := by decide +kernel
theorem zc_10_228 : zca 10 228 = some (140, 0, 0) := by decide +kernel
theorem zc_10_231 : zca 10 231 = some (148, 1, 0) := by decide +kernel
theorem zc_10_237 : zca 10 237 = some (143, 3, 0) := by decide +kernel
theorem zc_10_241 : zca 10 241 = some (141, 2, 0) := by decide +kernel
theorem zc_10_245 : zca 10 245 = some (145, 2, 0) := by decide +kernel
theorem zc_10_249 : zca 10 249 = some (150, 0, 0) := by decide +kernel
theorem zc_10_252 : zca 10 252 = some (147, 0, 0) := by decide +kernel
theorem zc_10_255 : zca 10 255 = some (151, 0, 0) := by decide +kernel
theorem zc_10_258 : zca 10 258 = some (139, 1, 0) := by decide +kernel
theorem zc_10_264 : zca 10 264 = some (154, 0, 0) := by decide +kernel
theorem zc_10_270 : zca 10 270 = some (155, 0, 0) := by decide +kernel
theorem zc_10_273 : zca 10 273 = some (138, 1, 0) := by decide +kernel
theorem zc_10_276 : zca 10 276 = some (153, 0, 0) := by decide +kernel
theorem zc_10_279 : zca 10 279 = some (152, 2, 0) := by decide +kernel
theorem zc_10_282 : zca 10 282 = some (156, 0, 0) := by decide +kernel
theorem zc_10_285 : zca 10 285 = some (157, 0, 0) := by decide +kernel
theorem zc_10_288 : zca 10 288 = some (158, 0, 0) := by decide +kernel
theorem zc_10_291 : zca 10 291 = some (159, 0, 0) := by decide +kernel
theorem zc_10_297 : zca 10 297 = some (149, 0, 0) := by decide +kernel
theorem zc_10_303 : zca 10 303 = some (160, 1, 1) := by decide +kernel
theorem zc_10_320 : zca 10 320 = some (164, 1, 1) := by decide +kernel
theorem zc_10_324 : zca 10 324 = some (1015, 1, 2) := by decide +kernel
theorem zc_10_334 : zca 10 334 = some (165, 1, 0) := by decide +kernel
theorem zc_10_337 : zca 10 337 = some (168, 1, 0) := by decide +kernel
theorem zc_10_340 : zca 10 340 = some (172, 2, 0) := by decide +kernel
theorem zc_10_344 : zca 10 344 = some (167, 1, 0) := by decide +kernel
theorem zc_10_347 : zca 10 347 = some (166, 1, 0) := by decide +kernel
theorem zc_10_350 : zca 10 350 = some (1014, 2, 2) := by decide +kernel
theorem zc_10_354 : zca 10 354 = some (1013, 2, 2) := by decide +kernel
theorem zc_10_360 : zca 10 360 = some (175, 4, 0) := by decide +kernel
theorem zc_10_364 : zca 10 364 = some (176, 3, 0) := by decide +kernel
theorem zc_10_368 : zca 10 368 = some (177, 4, 0) := by decide +kernel
theorem zc_10_372 : zca 10 372 = some (1011, 2, 2) := by decide +kernel
theorem zc_10_374 : zca 10 374 = some (173, 2, 0) := by decide +kernel
theorem zc_10_381 : zca 10 381 = some (182, 2, 0) := by decide +kernel
theorem zc_10_384 : zca 10 384 = some (1010, 2, 2) := by decide +kernel
theorem zc_10_386 : zca 10 386 = some (178, 4, 0) := by decide +kernel
theorem zc_10_390 : zca 10 390 = some (179, 5, 0) := by decide +kernel
theorem zc_10_394 : zca 10 394 = some (180, 2, 0) := by decide +kernel
theorem zc_10_397 : zca 10 397 = some (181, 2, 0) := by decide +kernel
theorem zc_10_401 : zca 10 401 = some (183, 1, 0) := by decide +kernel
theorem zc_10_404 : zca 10 404 = some (184, 2, 0) := by decide +kernel
theorem zc_10_407 : zca 10 407 = some (185, 2, 0) := by decide +kernel
theorem zc_10_411 : zca 10 411 = some (1012, 1, 2) := by decide +kernel
theorem zc_10_413 : zca 10 413 = some (171, 1, 0) := by decide +kernel
theorem zc_10_416 : zca 10 416 = some (190, 1, 1) := by decide +kernel
theorem zc_10_419 : zca 10 419 = some (192, 1, 0) := by decide +kernel
theorem zc_10_422 : zca 10 422 = some (187, 2, 0) := by decide +kernel
theorem zc_10_429 : zca 10 429 = some (170, 2, 0) := by decide +kernel
theorem zc_10_432 : zca 10 432 = some (196, 0, 0) := by decide +kernel
theorem zc_10_435 : zca 10 435 = some (199, 2, 0) := by decide +kernel
theorem zc_10_438 : zca 10 438 = some (189, 3, 0) := by decide +kernel
theorem zc_10_441 : zca 10 441 = some (186, 1, 0) := by decide +kernel
theorem zc_10_444 : zca 10 444 = some (174, 1, 1) := by decide +kernel
theorem zc_10_454 : zca 10 454 = some (207, 4, 0) := by decide +kernel
theorem zc_10_457 : zca 10 457 = some (209, 2, 0) := by decide +kernel
theorem zc_10_460 : zca 10 460 = some (211, 3, 0) := by decide +kernel
theorem zc_10_464 : zca 10 464 = some (214, 1, 0) := by decide +kernel
theorem zc_10_467 : zca 10 467 = some (216, 4, 0) := by decide +kernel
theorem zc_10_470 : zca 10 470 = some (217, 3, 0) := by decide +kernel
theorem zc_10_473 : zca 10 473 = some (219, 2, 0) := by decide +kernel
theorem zc_10_476 : zca 10 476 = some (218, 3, 0) := by decide +kernel
theorem zc_10_483 : zca 10 483 = some (222, 2, 1) := by decide +kernel
theorem zc_10_486 : zca 10 486 = some (227, 0, 0) := by decide +kernel
theorem zc_10_489 : zca 10 489 = some (228, 1, 0) := by decide +kernel
theorem zc_10_492 : zca 10 492 = some (229, 1, 0) := by decide +kernel
theorem zc_10_495 : zca 10 495 = some (230, 0, 0) := by decide +kernel
theorem zc_10_498 : zca 10 498 = some (188, 1, 0) := by decide +kernel
theorem zc_10_501 : zca 10 501 = some (238, 0, 0) := by decide +kernel
theorem zs_0_0 : zfs 0 0 = 3 := rfl
theorem zs_0_1 : zfs 0 1 = 3 := rfl
theorem zs_0_2 : zfs 0 2 = 3 := rfl
theorem zs_0_3 : zfs 0 3 = 0 := rfl
theorem zs_0_4 : zfs 0 4 = 0 := rfl
theorem zs_0_5 : zfs 0 5 = 0 := rfl
theorem zs_0_6 : zfs 0 6 = 1 := rfl
theorem zs_0_7 : zfs 0 7 = 1 := rfl
theorem zs_1_0 : zfs 1 0 = 3 := rfl
theorem zs_1_1 : zfs 1 1 = 0 := rfl
theorem zs_1_2 : zfs 1 2 = 0 := rfl
theorem zs_2_0 : zfs 2 0 = 3 := rfl
theorem zs_2_1 : zfs 2 1 = 3 := rfl
theorem zs_2_2 : zfs 2 2 = 3 := rfl
theorem zs_2_3 : zfs 2 3 = 0 := rfl
theorem zs_2_4 : zfs 2 4 = 0 := rfl
theorem zs_3_0 : zfs 3 0 = 0 := rfl
theorem zs_3_1 : zfs 3 1 = 0 := rfl
theorem zs_3_2 : zfs 3 2 = 0 := rfl
theorem zs_3_3 : zfs 3 3 = 0 := rfl
theorem zs_3_4 : zfs 3 4 = 0 := rfl
theorem zs_3_5 : zfs 3 5 = 3 := rfl
theorem zs_3_6 : zfs 3 6 = 3 := rfl
theorem zs_3_7 : zfs 3 7 = 3 := rfl
theorem zs_3_8 : zfs 3 8 = 3 := rfl
theorem zs_3_9 : zfs 3 9 = 3 := rfl
theorem zs_3_10 : zfs 3 10 = 3 := rfl
theorem zs_3_11 : zfs 3 11 = 3 := rfl
theorem zs_3_12 : zfs 3 12 = 3 := rfl
theorem zs_3_13 : zfs 3 13 = 3 := rfl
theorem zs_3_14 : zfs 3 14 = 3 := rfl
theorem zs_4_0 : zfs 4 0 = 3 := rfl
theorem zs_4_1 : zfs 4 1 = 3 := rfl
theorem zs_4_2 : zfs 4 2 = 0 := rfl
theorem zs_4_3 : zfs 4 3 = 0 := rfl
theorem zs_4_4 : zfs 4 4 = 0 := rfl
theorem zs_4_5 : zfs 4 5 = 3 := rfl
theorem zs_4_6 : zfs 4 6 = 0 := rfl
theorem zs_4_7 : zfs 4 7 = 0 := rfl
theorem zs_4_8 : zfs 4 8 = 0 := rfl
theorem zs_5_0 : zfs 5 0 = 0 := rfl
theorem zs_5_1 : zfs 5 1 = 0 := rfl
theorem zs_5_2 : zfs 5 2 = 0 := rfl
theorem zs_5_3 : zfs 5 3 = 3 := rfl
theorem zs_5_4 : zfs 5 4 = 3 := rfl
theorem zs_5_5 : zfs 5 5 = 3 := rfl
theorem zs_5_6 : zfs 5 6 = 3 := rfl
theorem zs_5_7 : zfs 5 7 = 3 := rfl
theorem zs_5_8 : zfs 5 8 = 3 := rfl
theorem zs_6_0 : zfs 6 0 = 3 := rfl
theorem zs_6_1 : zfs 6 1 = 3 := rfl
theorem zs_7_0 : zfs 7 0 = 3 := rfl
theorem zs_7_1 : zfs 7 1 = 0 := rfl
theorem zs_7_2 : zfs 7 2 = 3 := rfl
theorem zs_7_3 : zfs 7 3 = 0 := rfl
theorem zs_7_4 : zfs 7 4 = 0 := rfl
theorem zs_7_5 : zfs 7 5 = 0 := rfl
theorem zs_7_6 : zfs 7 6 = 0 := rfl
theorem zs_7_7 : zfs 7 7 = 0 := rfl
theorem zs_8_0 : zfs 8 0 = 0 := rfl
theorem zs_8_1 : zfs 8 1 = 2 := rfl
theorem zs_8_2 : zfs 8 2 = 3 := rfl
theorem zs_8_3 : zfs 8 3 = 3 := rfl
theorem zs_8_4 : zfs 8 4 = 3 := rfl
theorem zs_8_5 : zfs 8 5 = 3 := rfl
theorem zs_8_6 : zfs 8 6 = 3 := rfl
theorem zs_8_7 : zfs 8 7 = 3 := rfl
theorem zs_8_8 : zfs 8 8 = 3 := rfl
theorem zs_8_9 : zfs 8 9 = 3 := rfl
theorem zs_8_10 : zfs 8 10 = 3 := rfl
theorem zs_8_11 : zfs 8 11 = 0 := rfl
theorem zs_8_12 : zfs 8 12 = 0 := rfl
theorem zs_8_13 : zfs 8 13 = 0 := rfl
theorem zs_8_14 : zfs 8 14 = 0 := rfl
theorem zs_9_0 : zfs 9 0 = 3 := rfl
theorem zs_9_1 : zfs 9 1 = 3 := rfl
theorem zs_9_2 : zfs 9 2 = 3 := rfl
theorem zs_9_3 : zfs 9 3 = 3 := rfl
theorem zs_9_4 : zfs 9 4 = 3 := rfl
theorem zs_9_5 : zfs 9 5 = 3 := rfl
theorem zs_9_6 : zfs 9 6 = 1 := rfl
theorem zs_9_7 : zfs 9 7 = 3 := rfl
theorem zs_9_8 : zfs 9 8 = 3 := rfl
theorem zs_9_9 : zfs 9 9 = 3 := rfl
theorem zs_9_10 : zfs 9 10 = 3 := rfl
theorem zs_9_11 : zfs 9 11 = 3 := rfl
theorem zs_10_0 : zfs 10 0 = 0 := rfl
theorem zs_10_1 : zfs 10 1 = 3 := rfl
theorem zs_10_2 : zfs 10 2 = 0 := rfl
theorem zs_10_3 : zfs 10 3 = 3 := rfl
theorem zs_10_4 : zfs 10 4 = 3 := rfl
theorem zs_10_5 : zfs 10 5 = 3 := rfl
theorem zs_10_6 : zfs 10 6 = 3 := rfl
theorem zs_10_7 : zfs 10 7 = 3 := rfl
theorem zs_10_8 : zfs 10 8 = 3 := rfl
theorem zs_10_9 : zfs 10 9 = 3 := rfl
theorem zs_10_10 : zfs 10 10 = 3 := rfl
theorem zs_10_11 : zfs 10 11 = 3 := rfl
theorem zs_10_12 : zfs 10 12 = 3 := rfl
theorem zs_10_13 : zfs 10 13 = 3 := rfl
theorem zs_10_14 : zfs 10 14 = 3 := rfl
theorem zs_10_15 : zfs 10 15 = 3 := rfl
theorem zs_10_16 : zfs 10 16 = 3 := rfl
theorem zs_10_17 : zfs 10 17 = 3 := rfl
theorem zs_10_18 : zfs 10 18 = 3 := rfl
theorem zs_10_19 : zfs 10 19 = 0 := rfl
theorem zs_10_20 : zfs 10 20 = 0 := rfl
theorem zs_10_21 : zfs 10 21 = 0 := rfl
theorem zs_10_22 : zfs 10 22 = 0 := rfl
theorem zs_10_23 : zfs 10 23 = 0 := rfl
theorem zs_10_24 : zfs 10 24 = 0 := rfl
theorem zs_10_25 : zfs 10 25 = 0 := rfl
theorem zs_10_26 : zfs 10 26 = 0 := rfl
theorem zs_10_27 : zfs 10 27 = 0 := rfl
theorem zs_10_28 : zfs 10 28 = 0 := rfl
theorem zs_10_29 : zfs 10 29 = 0 := rfl
theorem zs_10_30 : zfs 10 30 = 0 := rfl
theorem zs_10_31 : zfs 10 31 = 0 := rfl
theorem zs_10_32 : zfs 10 32 = 3 := rfl
theorem zs_10_33 : zfs 10 33 = 3 := rfl
theorem zs_10_34 : zfs 10 34 = 0 := rfl
theorem zs_10_35 : zfs 10 35 = 3 := rfl
theorem zs_10_36 : zfs 10 36 = 3 := rfl
theorem zs_10_37 : zfs 10 37 = 3 := rfl
theorem zs_10_38 : zfs 10 38 = 3 := rfl
theorem zs_10_39 : zfs 10 39 = 3 := rfl
theorem zs_10_40 : zfs 10 40 = 3 := rfl
theorem zs_10_41 : zfs 10 41 = 3 := rfl
theorem zs_10_42 : zfs 10 42 = 3 := rfl
theorem zs_10_43 : zfs 10 43 = 3 := rfl
theorem zs_10_44 : zfs 10 44 = 3 := rfl
theorem zs_10_45 : zfs 10 45 = 3 := rfl
theorem zs_10_46 : zfs 10 46 = 3 := rfl
theorem zs_10_47 : zfs 10 47 = 1 := rfl
theorem zs_10_48 : zfs 10 48 = 0 := rfl
theorem zs_10_49 : zfs 10 49 = 0 := rfl
theorem zs_10_50 : zfs 10 50 = 0 := rfl
theorem zs_10_51 : zfs 10 51 = 0 := rfl
theorem zs_10_52 : zfs 10 52 = 3 := rfl
theorem zs_10_53 : zfs 10 53 = 3 := rfl
theorem zs_10_54 : zfs 10 54 = 0 := rfl
theorem zs_10_55 : zfs 10 55 = 0 := rfl
theorem zs_10_56 : zfs 10 56 = 3 := rfl
theorem zs_10_57 : zfs 10 57 = 0 := rfl
theorem zs_10_58 : zfs 10 58 = 0 := rfl
theorem zs_10_59 : zfs 10 59 = 3 := rfl
theorem zs_10_60 : zfs 10 60 = 3 := rfl
theorem zs_10_61 : zfs 10 61 = 3 := rfl
theorem zs_10_62 : zfs 10 62 = 3 := rfl
theorem zs_10_63 : zfs 10 63 = 3 := rfl
theorem zs_10_64 : zfs 10 64 = 3 := rfl
theorem zs_10_65 : zfs 10 65 = 3 := rfl
