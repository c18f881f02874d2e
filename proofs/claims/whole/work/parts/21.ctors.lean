theorem x_callI0 {G : xG} {l : Launch} {M : xMI} {K : xK} {pc : Nat} {lv : List (Nat × Value)} {rest : List Value} {σ : xMem} {τ : xMem} {M2 : xMI} {d d2 n idx o : Nat} {r : Option Value} {st rest2 : List Value} (hC : xCX G M K) (hd : xRd K d) (hdg : decode M.2.1 pc = .ok (.invokespecial idx, 3)) (hm : xMi M2 n) (hlk : Cond.methodLink M.2.2.2.2 idx M2.1 ∈ xTbl) (hcon : xC G l M2 d2 [.ref (xad G o)] σ r τ) (hd2 : d2 + 1 ≤ d)
    (hn : 0 = n) (hst : (rest.map fun v => v.category).sum ≤ 8) (hr1 : τ.1 ≤ xKn K + (xKR K).cells) (hr2 : xSz τ.1 ≤ xSz (xKn K) + (xKR K).slots) (e1 : .ref (xad G o) :: rest = st) (e2 : r.toList ++ rest = rest2)
    (kk : xV G l M K (pc + 3) lv rest2 τ) : xV G l M K pc lv st σ := by
  subst e1; subst e2
  exact x_callIg (As := []) hC hd hdg hm hlk hcon hd2 hn hst hr1 hr2 kk
theorem x_callIN0 {G : xG} {l : Launch} {M : xMI} {K : xK} {pc : Nat} {lv : List (Nat × Value)} {rest : List Value} {σ : xMem} {τ : xMem} {M2 : xMI} {d d2 n idx o : Nat} {r : Option Value} {st rest2 : List Value} (hC : xCX G M K) (hd : xRd K d) (hdg : decode M.2.1 pc = .ok (.invokespecial idx, 3)) (hm : xMi M2 n) (hown : M.2.2.2.2 = "DustCart") (hlk : (idx, M2.1) ∈ xNL) (hcon : xC G l M2 d2 [.ref (xad G o)] σ r τ) (hd2 : d2 + 1 ≤ d)
    (hn : 0 = n) (hst : (rest.map fun v => v.category).sum ≤ 8) (hr1 : τ.1 ≤ xKn K + (xKR K).cells) (hr2 : xSz τ.1 ≤ xSz (xKn K) + (xKR K).slots) (e1 : .ref (xad G o) :: rest = st) (e2 : r.toList ++ rest = rest2)
    (kk : xV G l M K (pc + 3) lv rest2 τ) : xV G l M K pc lv st σ := by
  subst e1; subst e2
  exact x_callIN (As := []) hC hd hdg hm hown hlk hcon hd2 hn hst hr1 hr2 kk
theorem wcl_L_7 : Cond.classLink RL 7 "DustCart" ∈ xTbl := xmt_1 15 (by decide +kernel) (by decide +kernel)
theorem wml_X8_1 : Cond.methodLink RX8 1 Lib.objectInit ∈ xTbl := xmt_1 20 (by decide +kernel) (by decide +kernel)
theorem wcl_X8_7 : Cond.classLink RX8 7 "DustCart$Plain" ∈ xTbl := xmt_1 23 (by decide +kernel) (by decide +kernel)
theorem wml_X3_3 : Cond.methodLink RX3 3 Lib.objectInit ∈ xTbl := xmt_1 28 (by decide +kernel) (by decide +kernel)
theorem wml_X8_9 : Cond.methodLink RX8 9 yX3_init ∈ xTbl := xmt_1 25 (by decide +kernel) (by decide +kernel)
theorem wcl_X8_16 : Cond.classLink RX8 16 "DustCart$Cart" ∈ xTbl := xmt_1 34 (by decide +kernel) (by decide +kernel)
theorem wml_X0_3 : Cond.methodLink RX0 3 Lib.objectInit ∈ xTbl := xmt_1 39 (by decide +kernel) (by decide +kernel)
theorem wml_X8_18 : Cond.methodLink RX8 18 yX0_init ∈ xTbl := xmt_1 36 (by decide +kernel) (by decide +kernel)
theorem wcl_X8_37 : Cond.classLink RX8 37 "DustCart$Law" ∈ xTbl := xmt_1 64 (by decide +kernel) (by decide +kernel)
theorem wml_X2_3 : Cond.methodLink RX2 3 Lib.objectInit ∈ xTbl := xmt_1 69 (by decide +kernel) (by decide +kernel)
theorem wcl_X8_44 : Cond.classLink RX8 44 "DustCart$Ways" ∈ xTbl := xmt_1 103 (by decide +kernel) (by decide +kernel)
theorem wml_X6_1 : Cond.methodLink RX6 1 Lib.objectInit ∈ xTbl := xmt_1 108 (by decide +kernel) (by decide +kernel)
theorem wcl_X8_51 : Cond.classLink RX8 51 "DustCart$Reach" ∈ xTbl := xmt_1 136 (by decide +kernel) (by decide +kernel)
theorem wml_X4_3 : Cond.methodLink RX4 3 Lib.objectInit ∈ xTbl := xmt_1 141 (by decide +kernel) (by decide +kernel)
theorem wcl_X4_20 : Cond.classLink RX4 20 "DustCart$Cart" ∈ xTbl := xmt_1 142 (by decide +kernel) (by decide +kernel)
theorem wml_X4_22 : Cond.methodLink RX4 22 yX0_init ∈ xTbl := xmt_1 143 (by decide +kernel) (by decide +kernel)
theorem wcl_X8_58 : Cond.classLink RX8 58 "DustCart$Changes" ∈ xTbl := xmt_1 162 (by decide +kernel) (by decide +kernel)
theorem wml_X1_1 : Cond.methodLink RX1 1 Lib.objectInit ∈ xTbl := xmt_1 167 (by decide +kernel) (by decide +kernel)
theorem wcl_X8_65 : Cond.classLink RX8 65 "DustCart$Shelf" ∈ xTbl := xmt_1 186 (by decide +kernel) (by decide +kernel)
theorem wml_X5_1 : Cond.methodLink RX5 1 Lib.objectInit ∈ xTbl := xmt_1 192 (by decide +kernel) (by decide +kernel)
theorem wcl_X8_72 : Cond.classLink RX8 72 "DustCart$Wheels" ∈ xTbl := xmt_1 214 (by decide +kernel) (by decide +kernel)
theorem wml_X7_1 : Cond.methodLink RX7 1 Lib.objectInit ∈ xTbl := xmt_1 219 (by decide +kernel) (by decide +kernel)
theorem wml_L_9 : Cond.methodLink RL 9 yX8_init ∈ xTbl := xmt_1 17 (by decide +kernel) (by decide +kernel)
theorem wcl_L_10 : Cond.classLink RL 10 "DustCartModel" ∈ xTbl := xmt_4 152 (by decide +kernel) (by decide +kernel)
theorem wml_X9_1 : Cond.methodLink RX9 1 Lib.objectInit ∈ xTbl := xmt_4 157 (by decide +kernel) (by decide +kernel)
theorem wml_L_12 : Cond.methodLink RL 12 yX9_init ∈ xTbl := xmt_4 154 (by decide +kernel) (by decide +kernel)
def q0 : xMem := (0, fun _ _ => 0, fun _ _ => 0, fun _ _ => none)
def q1 : xMem := xnw q0
def q2 : xMem := xnw q1
def q3 : xMem := xnw q2
def q4 : xMem := xsR q3 1 0 (some 2)
def q5 : xMem := xsI q4 2 72 (8 : Int32)
def q6 : xMem := xsI q5 2 132 (3 : Int32)
def q7 : xMem := xsI q6 2 73 (8 : Int32)
def q8 : xMem := xsI q7 2 133 (3 : Int32)
def q9 : xMem := xsI q8 2 74 (8 : Int32)
def q10 : xMem := xsI q9 2 134 (3 : Int32)
def q11 : xMem := xsI q10 2 75 (8 : Int32)
def q12 : xMem := xsI q11 2 135 (3 : Int32)
def q13 : xMem := xsI q12 2 76 (8 : Int32)
def q14 : xMem := xsI q13 2 136 (3 : Int32)
def q15 : xMem := xsI q14 2 77 (8 : Int32)
def q16 : xMem := xsI q15 2 137 (3 : Int32)
def q17 : xMem := xsI q16 2 78 (8 : Int32)
def q18 : xMem := xsI q17 2 138 (3 : Int32)
def q19 : xMem := xsI q18 2 79 (8 : Int32)
def q20 : xMem := xsI q19 2 139 (3 : Int32)
def q21 : xMem := xsI q20 2 80 (8 : Int32)
def q22 : xMem := xsI q21 2 140 (3 : Int32)
def q23 : xMem := xsI q22 2 81 (8 : Int32)
def q24 : xMem := xsI q23 2 141 (3 : Int32)
def q25 : xMem := xsI q24 2 82 (8 : Int32)
def q26 : xMem := xsI q25 2 142 (3 : Int32)
def q27 : xMem := xsI q26 2 83 (8 : Int32)
def q28 : xMem := xsI q27 2 143 (3 : Int32)
def q29 : xMem := xsI q28 2 84 (8 : Int32)
def q30 : xMem := xsI q29 2 144 (3 : Int32)
def q31 : xMem := xsI q30 2 85 (8 : Int32)
def q32 : xMem := xsI q31 2 145 (3 : Int32)
def q33 : xMem := xsI q32 2 86 (8 : Int32)
def q34 : xMem := xsI q33 2 146 (3 : Int32)
def q35 : xMem := xsI q34 2 87 (8 : Int32)
def q36 : xMem := xsI q35 2 147 (3 : Int32)
def q37 : xMem := xsI q36 2 88 (8 : Int32)
def q38 : xMem := xsI q37 2 148 (3 : Int32)
def q39 : xMem := xsI q38 2 89 (8 : Int32)
def q40 : xMem := xsI q39 2 149 (3 : Int32)
def q41 : xMem := xsI q40 2 90 (8 : Int32)
def q42 : xMem := xsI q41 2 150 (3 : Int32)
def q43 : xMem := xsI q42 2 91 (8 : Int32)
def q44 : xMem := xsI q43 2 151 (3 : Int32)
def q45 : xMem := xsI q44 2 92 (8 : Int32)
def q46 : xMem := xsI q45 2 152 (3 : Int32)
def q47 : xMem := xsI q46 2 93 (8 : Int32)
def q48 : xMem := xsI q47 2 153 (3 : Int32)
def q49 : xMem := xsI q48 2 94 (8 : Int32)
def q50 : xMem := xsI q49 2 154 (3 : Int32)
def q51 : xMem := xsI q50 2 95 (8 : Int32)
def q52 : xMem := xsI q51 2 155 (3 : Int32)
def q53 : xMem := xsI q52 2 96 (8 : Int32)
def q54 : xMem := xsI q53 2 156 (3 : Int32)
def q55 : xMem := xsI q54 2 97 (8 : Int32)
def q56 : xMem := xsI q55 2 157 (3 : Int32)
def q57 : xMem := xsI q56 2 98 (8 : Int32)
def q58 : xMem := xsI q57 2 158 (3 : Int32)
def q59 : xMem := xsI q58 2 99 (8 : Int32)
def q60 : xMem := xsI q59 2 159 (3 : Int32)
def q61 : xMem := xsI q60 2 100 (8 : Int32)
def q62 : xMem := xsI q61 2 160 (3 : Int32)
def q63 : xMem := xsI q62 2 101 (8 : Int32)
def q64 : xMem := xsI q63 2 161 (3 : Int32)
def q65 : xMem := xsI q64 2 102 (8 : Int32)
def q66 : xMem := xsI q65 2 162 (3 : Int32)
def q67 : xMem := xsI q66 2 103 (8 : Int32)
def q68 : xMem := xsI q67 2 163 (3 : Int32)
def q69 : xMem := xsI q68 2 104 (8 : Int32)
def q70 : xMem := xsI q69 2 164 (3 : Int32)
def q71 : xMem := xsI q70 2 105 (8 : Int32)
def q72 : xMem := xsI q71 2 165 (3 : Int32)
def q73 : xMem := xsI q72 2 106 (8 : Int32)
def q74 : xMem := xsI q73 2 166 (3 : Int32)
def q75 : xMem := xsI q74 2 107 (8 : Int32)
def q76 : xMem := xsI q75 2 167 (3 : Int32)
def q77 : xMem := xsI q76 2 108 (8 : Int32)
def q78 : xMem := xsI q77 2 168 (3 : Int32)
def q79 : xMem := xsI q78 2 109 (8 : Int32)
def q80 : xMem := xsI q79 2 169 (3 : Int32)
def q81 : xMem := xsI q80 2 110 (8 : Int32)
def q82 : xMem := xsI q81 2 170 (3 : Int32)
def q83 : xMem := xsI q82 2 111 (8 : Int32)
def q84 : xMem := xsI q83 2 171 (3 : Int32)
def q85 : xMem := xsI q84 2 112 (8 : Int32)
def q86 : xMem := xsI q85 2 172 (3 : Int32)
def q87 : xMem := xsI q86 2 113 (8 : Int32)
def q88 : xMem := xsI q87 2 173 (3 : Int32)
def q89 : xMem := xsI q88 2 114 (8 : Int32)
def q90 : xMem := xsI q89 2 174 (3 : Int32)
def q91 : xMem := xsI q90 2 115 (8 : Int32)
def q92 : xMem := xsI q91 2 175 (3 : Int32)
def q93 : xMem := xsI q92 2 116 (8 : Int32)
def q94 : xMem := xsI q93 2 176 (3 : Int32)
def q95 : xMem := xsI q94 2 117 (8 : Int32)
def q96 : xMem := xsI q95 2 177 (3 : Int32)
def q97 : xMem := xsI q96 2 118 (8 : Int32)
def q98 : xMem := xsI q97 2 178 (3 : Int32)
def q99 : xMem := xsI q98 2 119 (8 : Int32)
def q100 : xMem := xsI q99 2 179 (3 : Int32)
def q101 : xMem := xsI q100 2 120 (8 : Int32)
def q102 : xMem := xsI q101 2 180 (3 : Int32)
def q103 : xMem := xsI q102 2 121 (8 : Int32)
def q104 : xMem := xsI q103 2 181 (3 : Int32)
def q105 : xMem := xsI q104 2 122 (8 : Int32)
def q106 : xMem := xsI q105 2 182 (3 : Int32)
def q107 : xMem := xsI q106 2 123 (8 : Int32)
def q108 : xMem := xsI q107 2 183 (3 : Int32)
def q109 : xMem := xsI q108 2 124 (8 : Int32)
def q110 : xMem := xsI q109 2 184 (3 : Int32)
def q111 : xMem := xsI q110 2 125 (8 : Int32)
def q112 : xMem := xsI q111 2 185 (3 : Int32)
def q113 : xMem := xsI q112 2 126 (8 : Int32)
def q114 : xMem := xsI q113 2 186 (3 : Int32)
def q115 : xMem := xsI q114 2 127 (8 : Int32)
def q116 : xMem := xsI q115 2 187 (3 : Int32)
def q117 : xMem := xsI q116 2 128 (8 : Int32)
def q118 : xMem := xsI q117 2 188 (3 : Int32)
def q119 : xMem := xsI q118 2 129 (8 : Int32)
def q120 : xMem := xsI q119 2 189 (3 : Int32)
def q121 : xMem := xsI q120 2 130 (8 : Int32)
def q122 : xMem := xsI q121 2 190 (3 : Int32)
def q123 : xMem := xsI q122 2 131 (8 : Int32)
def q124 : xMem := xsI q123 2 191 (3 : Int32)
def q125 : xMem := xsI q124 2 192 (6 : Int32)
def q126 : xMem := xsI q125 2 193 (2 : Int32)
def q127 : xMem := xsR q126 0 0 (some 1)
def q128 : xMem := xnw q127
def q129 : xMem := xsI q128 3 1 (50 : Int32)
def q130 : xMem := xsR q129 0 1 (some 3)
def q131 : xMem := xnw q130
def q132 : xMem := xsI q131 4 1 (50 : Int32)
def q133 : xMem := xsR q132 0 2 (some 4)
def q134 : xMem := xnw q133
def q135 : xMem := xsI q134 5 1 (50 : Int32)
def q136 : xMem := xsR q135 0 3 (some 5)
def q137 : xMem := xnw q136
def q138 : xMem := xsR q137 0 4 (some 6)
def q139 : xMem := xnw q138
def q140 : xMem := xsR q139 0 5 (some 7)
def q141 : xMem := xnw q140
def q142 : xMem := xnw q141
def q143 : xMem := xsR q142 8 0 (some 9)
def q144 : xMem := xnw q143
def q145 : xMem := xsR q144 8 1 (some 10)
def q146 : xMem := xnw q145
def q147 : xMem := xsR q146 8 2 (some 11)
def q148 : xMem := xnw q147
def q149 : xMem := xsR q148 8 3 (some 12)
def q150 : xMem := xsR q149 0 6 (some 8)
def q151 : xMem := xnw q150
def q152 : xMem := xnw q151
def q153 : xMem := xsR q152 13 0 (some 14)
def q154 : xMem := xnw q153
def q155 : xMem := xsR q154 13 1 (some 15)
def q156 : xMem := xnw q155
def q157 : xMem := xsR q156 13 2 (some 16)
def q158 : xMem := xnw q157
def q159 : xMem := xsR q158 13 3 (some 17)
def q160 : xMem := xnw q159
def q161 : xMem := xsR q160 13 4 (some 18)
def q162 : xMem := xsR q161 0 7 (some 13)
def q163 : xMem := xnw q162
def q164 : xMem := xnw q163
def q165 : xMem := xsR q164 19 0 (some 20)
def q166 : xMem := xnw q165
def q167 : xMem := xsR q166 19 1 (some 21)
def q168 : xMem := xnw q167
def q169 : xMem := xsI q168 22 1 (50 : Int32)
def q170 : xMem := xsR q169 19 2 (some 22)
def q171 : xMem := xsR q170 0 8 (some 19)
def q172 : xMem := xnw q171
def q173 : xMem := xnw q172
def q174 : xMem := xsR q173 23 0 (some 24)
def q175 : xMem := xnw q174
def q176 : xMem := xsR q175 23 1 (some 25)
def q177 : xMem := xnw q176
def q178 : xMem := xsR q177 23 2 (some 26)
def q179 : xMem := xsR q178 0 9 (some 23)
def q180 : xMem := xnw q179
def q181 : xMem := xsR q180 0 10 (some 27)
def q182 : xMem := xnw q181
def q183 : xMem := xnw q182
def q184 : xMem := xsR q183 28 0 (some 29)
def q185 : xMem := xsR q184 27 0 (some 28)
def q186 : xMem := xnw q185
def q187 : xMem := xnw q186
def q188 : xMem := xsR q187 30 0 (some 31)
def q189 : xMem := xsR q188 27 1 (some 30)
def q190 : xMem := xnw q189
def q191 : xMem := xnw q190
def q192 : xMem := xsR q191 32 0 (some 33)
def q193 : xMem := xsR q192 27 2 (some 32)
def q194 : xMem := xnw q193
def q195 : xMem := xnw q194
def q196 : xMem := xsR q195 34 0 (some 35)
def q197 : xMem := xsR q196 27 3 (some 34)
def q198 : xMem := xnw q197
def q199 : xMem := xnw q198
def q200 : xMem := xsR q199 36 0 (some 37)
def q201 : xMem := xsR q200 27 4 (some 36)
def q202 : xMem := xnw q201
def q203 : xMem := xnw q202
def q204 : xMem := xsR q203 38 0 (some 39)
def q205 : xMem := xsR q204 27 5 (some 38)
def q206 : xMem := xnw q205
def q207 : xMem := xnw q206
def q208 : xMem := xsR q207 40 0 (some 41)
def q209 : xMem := xnw q208
def q210 : xMem := xsR q209 40 1 (some 42)
def q211 : xMem := xsR q210 0 11 (some 40)
def q212 : xMem := xsI q211 0 13 (-1 : Int32)
def q213 : xMem := xnw q212
def q214 : xMem := xnw q213
def q215 : xMem := xsR q214 43 1 (some 44)
def q216 : xMem := xnw q215
def q217 : xMem := xsR q216 43 2 (some 45)
def q218 : xMem := xnw q217
def q219 : xMem := xsI q218 46 0 (8 : Int32)
def q220 : xMem := xsI q219 46 1 (8 : Int32)
def q221 : xMem := xsI q220 46 2 (8 : Int32)
def q222 : xMem := xsI q221 46 3 (8 : Int32)
def q223 : xMem := xsI q222 46 4 (8 : Int32)
def q224 : xMem := xsI q223 46 5 (8 : Int32)
def q225 : xMem := xsI q224 46 6 (8 : Int32)
def q226 : xMem := xsI q225 46 7 (8 : Int32)
def q227 : xMem := xsI q226 46 8 (8 : Int32)
def q228 : xMem := xsI q227 46 9 (8 : Int32)
def q229 : xMem := xsI q228 46 10 (8 : Int32)
def q230 : xMem := xsI q229 46 11 (8 : Int32)
def q231 : xMem := xsI q230 46 12 (8 : Int32)
def q232 : xMem := xsI q231 46 13 (8 : Int32)
def q233 : xMem := xsI q232 46 14 (8 : Int32)
def q234 : xMem := xsI q233 46 15 (8 : Int32)
def q235 : xMem := xsI q234 46 16 (8 : Int32)
def q236 : xMem := xsI q235 46 17 (8 : Int32)
def q237 : xMem := xsI q236 46 18 (8 : Int32)
def q238 : xMem := xsI q237 46 19 (8 : Int32)
def q239 : xMem := xsI q238 46 20 (8 : Int32)
def q240 : xMem := xsI q239 46 21 (8 : Int32)
def q241 : xMem := xsI q240 46 22 (8 : Int32)
def q242 : xMem := xsI q241 46 23 (8 : Int32)
def q243 : xMem := xsI q242 46 24 (8 : Int32)
def q244 : xMem := xsI q243 46 25 (8 : Int32)
def q245 : xMem := xsI q244 46 26 (8 : Int32)
def q246 : xMem := xsI q245 46 27 (8 : Int32)
def q247 : xMem := xsI q246 46 28 (8 : Int32)
def q248 : xMem := xsI q247 46 29 (8 : Int32)
def q249 : xMem := xsI q248 46 30 (8 : Int32)
def q250 : xMem := xsI q249 46 31 (8 : Int32)
def q251 : xMem := xsI q250 46 32 (8 : Int32)
def q252 : xMem := xsI q251 46 33 (8 : Int32)
def q253 : xMem := xsI q252 46 34 (8 : Int32)
def q254 : xMem := xsI q253 46 35 (8 : Int32)
def q255 : xMem := xsI q254 46 36 (8 : Int32)
def q256 : xMem := xsI q255 46 37 (8 : Int32)
def q257 : xMem := xsI q256 46 38 (8 : Int32)
def q258 : xMem := xsI q257 46 39 (8 : Int32)
def q259 : xMem := xsI q258 46 40 (8 : Int32)
def q260 : xMem := xsI q259 46 41 (8 : Int32)
def q261 : xMem := xsI q260 46 42 (8 : Int32)
def q262 : xMem := xsI q261 46 43 (8 : Int32)
def q263 : xMem := xsI q262 46 44 (8 : Int32)
def q264 : xMem := xsI q263 46 45 (8 : Int32)
def q265 : xMem := xsI q264 46 46 (8 : Int32)
def q266 : xMem := xsI q265 46 47 (8 : Int32)
def q267 : xMem := xsI q266 46 48 (8 : Int32)
def q268 : xMem := xsI q267 46 49 (8 : Int32)
def q269 : xMem := xsI q268 46 50 (8 : Int32)
def q270 : xMem := xsI q269 46 51 (8 : Int32)
def q271 : xMem := xsI q270 46 52 (8 : Int32)
def q272 : xMem := xsI q271 46 53 (8 : Int32)
def q273 : xMem := xsI q272 46 54 (8 : Int32)
def q274 : xMem := xsI q273 46 55 (8 : Int32)
def q275 : xMem := xsI q274 46 56 (8 : Int32)
def q276 : xMem := xsI q275 46 57 (8 : Int32)
def q277 : xMem := xsI q276 46 58 (8 : Int32)
def q278 : xMem := xsI q277 46 59 (8 : Int32)
def q279 : xMem := xsR q278 43 3 (some 46)
def q280 : xMem := xnw q279
def q281 : xMem := xsI q280 47 0 (3 : Int32)
def q282 : xMem := xsI q281 47 1 (3 : Int32)
def q283 : xMem := xsI q282 47 2 (3 : Int32)
def q284 : xMem := xsI q283 47 3 (3 : Int32)
def q285 : xMem := xsI q284 47 4 (3 : Int32)
def q286 : xMem := xsI q285 47 5 (3 : Int32)
def q287 : xMem := xsI q286 47 6 (3 : Int32)
def q288 : xMem := xsI q287 47 7 (3 : Int32)
def q289 : xMem := xsI q288 47 8 (3 : Int32)
def q290 : xMem := xsI q289 47 9 (3 : Int32)
def q291 : xMem := xsI q290 47 10 (3 : Int32)
def q292 : xMem := xsI q291 47 11 (3 : Int32)
def q293 : xMem := xsI q292 47 12 (3 : Int32)
def q294 : xMem := xsI q293 47 13 (3 : Int32)
def q295 : xMem := xsI q294 47 14 (3 : Int32)
def q296 : xMem := xsI q295 47 15 (3 : Int32)
def q297 : xMem := xsI q296 47 16 (3 : Int32)
def q298 : xMem := xsI q297 47 17 (3 : Int32)
def q299 : xMem := xsI q298 47 18 (3 : Int32)
def q300 : xMem := xsI q299 47 19 (3 : Int32)
def q301 : xMem := xsI q300 47 20 (3 : Int32)
def q302 : xMem := xsI q301 47 21 (3 : Int32)
def q303 : xMem := xsI q302 47 22 (3 : Int32)
def q304 : xMem := xsI q303 47 23 (3 : Int32)
def q305 : xMem := xsI q304 47 24 (3 : Int32)
def q306 : xMem := xsI q305 47 25 (3 : Int32)
def q307 : xMem := xsI q306 47 26 (3 : Int32)
def q308 : xMem := xsI q307 47 27 (3 : Int32)
def q309 : xMem := xsI q308 47 28 (3 : Int32)
def q310 : xMem := xsI q309 47 29 (3 : Int32)
def q311 : xMem := xsI q310 47 30 (3 : Int32)
def q312 : xMem := xsI q311 47 31 (3 : Int32)
def q313 : xMem := xsI q312 47 32 (3 : Int32)
def q314 : xMem := xsI q313 47 33 (3 : Int32)
def q315 : xMem := xsI q314 47 34 (3 : Int32)
def q316 : xMem := xsI q315 47 35 (3 : Int32)
def q317 : xMem := xsI q316 47 36 (3 : Int32)
def q318 : xMem := xsI q317 47 37 (3 : Int32)
def q319 : xMem := xsI q318 47 38 (3 : Int32)
def q320 : xMem := xsI q319 47 39 (3 : Int32)
def q321 : xMem := xsI q320 47 40 (3 : Int32)
def q322 : xMem := xsI q321 47 41 (3 : Int32)
def q323 : xMem := xsI q322 47 42 (3 : Int32)
def q324 : xMem := xsI q323 47 43 (3 : Int32)
def q325 : xMem := xsI q324 47 44 (3 : Int32)
def q326 : xMem := xsI q325 47 45 (3 : Int32)
def q327 : xMem := xsI q326 47 46 (3 : Int32)
def q328 : xMem := xsI q327 47 47 (3 : Int32)
def q329 : xMem := xsI q328 47 48 (3 : Int32)
def q330 : xMem := xsI q329 47 49 (3 : Int32)
def q331 : xMem := xsI q330 47 50 (3 : Int32)
def q332 : xMem := xsI q331 47 51 (3 : Int32)
def q333 : xMem := xsI q332 47 52 (3 : Int32)
def q334 : xMem := xsI q333 47 53 (3 : Int32)
def q335 : xMem := xsI q334 47 54 (3 : Int32)
def q336 : xMem := xsI q335 47 55 (3 : Int32)
def q337 : xMem := xsI q336 47 56 (3 : Int32)
def q338 : xMem := xsI q337 47 57 (3 : Int32)
def q339 : xMem := xsI q338 47 58 (3 : Int32)
def q340 : xMem := xsI q339 47 59 (3 : Int32)
def q341 : xMem := xsR q340 43 4 (some 47)
def q342 : xMem := xsI q341 43 5 (6 : Int32)
def q343 : xMem := xsI q342 43 6 (2 : Int32)
def q344 : xMem := xsI q343 43 9 (50 : Int32)
def q345 : xMem := xnw q344
def q346 : xMem := xsR q345 43 12 (some 48)
def q347 : xMem := xnw q346
def q348 : xMem := xsR q347 43 13 (some 49)
def q349 : xMem := xnw q348
def q350 : xMem := xsR q349 43 16 (some 50)
def q351 : xMem := xnw q350
def q352 : xMem := xsR q351 43 17 (some 51)
def q353 : xMem := xnw q352
def q354 : xMem := xsR q353 43 18 (some 52)
def q355 : xMem := xnw q354
def q356 : xMem := xsR q355 43 19 (some 53)
def q357 : xMem := xnw q356
def q358 : xMem := xsR q357 43 20 (some 54)
def q359 : xMem := xnw q358
def q360 : xMem := xsR q359 43 26 (some 55)
def q361 : xMem := xnw q360
def q362 : xMem := xsR q361 43 27 (some 56)
def q363 : xMem := xnw q362
def q364 : xMem := xsR q363 43 28 (some 57)
def q365 : xMem := xnw q364
def q366 : xMem := xsR q365 43 29 (some 58)
def q367 : xMem := xnw q366
def q368 : xMem := xsR q367 43 30 (some 59)
def q369 : xMem := xnw q368
def q370 : xMem := xsR q369 43 31 (some 60)
def q371 : xMem := xnw q370
def q372 : xMem := xsR q371 43 32 (some 61)
def q373 : xMem := xnw q372
def q374 : xMem := xsR q373 43 38 (some 62)
def q375 : xMem := xnw q374
def q376 : xMem := xsR q375 43 39 (some 63)
def q377 : xMem := xnw q376
def q378 : xMem := xsR q377 43 40 (some 64)
def q379 : xMem := xnw q378
def q380 : xMem := xsR q379 43 41 (some 65)
def q381 : xMem := xnw q380
def q382 : xMem := xsR q381 43 42 (some 66)
def q383 : xMem := xnw q382
def q384 : xMem := xsR q383 43 43 (some 67)
def q385 : xMem := xnw q384
def q386 : xMem := xsR q385 43 53 (some 68)
def q387 : xMem := xnw q386
def q388 : xMem := xsR q387 43 55 (some 69)
def q389 : xMem := xnw q388
def q390 : xMem := xsI q389 70 0 (-1 : Int32)
def q391 : xMem := xsI q390 70 1 (-1 : Int32)
def q392 : xMem := xsI q391 70 2 (-1 : Int32)
def q393 : xMem := xsI q392 70 3 (-1 : Int32)
def q394 : xMem := xsI q393 70 4 (-1 : Int32)
def q395 : xMem := xsI q394 70 5 (-1 : Int32)
def q396 : xMem := xsR q395 43 56 (some 70)
def q397 : xMem := xnw q396
def q398 : xMem := xsR q397 43 57 (some 71)
def q399 : xMem := xnw q398
def q400 : xMem := xsR q399 43 58 (some 72)
def q401 : xMem := xnw q400
def q402 : xMem := xsR q401 43 59 (some 73)
set_option maxRecDepth 100000 in
set_option maxHeartbeats 4000000 in
theorem CT_2 {G : xG} {l : Launch} : xC G l mM_X3_init 1 [.ref (xad G 1)] q2 none q126 := by
  refine xC_of (by decide) rfl (by decide +kernel) (Nat.le_of_ble_eq_true rfl) (fun K hC hE hR _ => ?_)
  refine x_aload_n hC dX3_init_0 rfl (j := 0) rfl <| ?_
  refine x_objInit hC hR (by decide) dX3_init_1 wml_X3_3 (xmt_1 21 (by decide +kernel) (by decide +kernel)) (xmt_1 22 rfl rfl) (Nat.le_of_ble_eq_true rfl) ?_
  show xV G l mM_X3_init K 4 [(0, .ref (xad G 1))] [] q2
  refine x_aload_n hC dX3_init_4 rfl (j := 0) rfl <| x_sipush (v := (194 : Int32)) hC dX3_init_5 (by decide) <| ?_
  refine x_newa (t := 0) (N := 194) (ty := .int) hC dX3_init_8 rfl rfl (fun h => h) (by decide +kernel) (xmt_1 33 (by decide +kernel) (by decide +kernel)) (by decide) (by decide) (by decide) (fun _ => rfl) (by decide) (by decide +kernel) (by rw [← hE.2.1]; exact (by decide +kernel : q2.1 + 1 ≤ q126.1)) (by rw [← hE.2.2]; exact (by decide +kernel : xSz (q2.1 + 1) ≤ xSz q126.1)) ?_
  show xV G l mM_X3_init K 10 [(0, .ref (xad G 1))] [.ref (xad G 2), .ref (xad G 1)] q3
  refine x_putFR (k := 0) (N := 1) hC dX3_init_10 wfl_X3_9 (by decide) (by decide) (by decide) (by decide +kernel) (by decide) rfl rfl (by decide) ?_
  show xV G l mM_X3_init K 13 [(0, .ref (xad G 1))] [] q4
  refine x_iconst (v := (0 : Int32)) hC dX3_init_13 (by decide) <| x_istore_n hC dX3_init_14 rfl (by decide) rfl <| x_iload_n hC dX3_init_15 rfl (j := 0) rfl <| x_bipush (v := (60 : Int32)) hC dX3_init_16 (by decide) <| ?_
  refine x_icmp_ge (tgt := 49) hC dX3_init_18 (by decide) (fun c => absurd c (by decide)) (fun _ => ?_)
  refine x_aload_n hC dX3_init_21 rfl (j := 1) rfl <| ?_
  refine x_getR (q := 2) (k := 0) (N := 1) hC dX3_init_22 wfl_X3_9 (by decide) (by decide) (by decide) (by decide +kernel) (by decide) (by decide +kernel) ?_
  refine x_bipush (v := (72 : Int32)) hC dX3_init_25 (by decide) <| x_iload_n hC dX3_init_27 rfl (j := 0) rfl <| x_iadd hC dX3_init_28 <| ?_
  show xV G l mM_X3_init K 29 [(1, .int (0 : Int32)), (0, .ref (xad G 1))] [.int (72 : Int32), .ref (xad G 2)] q4
  refine x_bipush (v := (8 : Int32)) hC dX3_init_29 (by decide) <| ?_
  refine x_iast (N := 194) hC dX3_init_31 (by decide) (by decide +kernel) (by decide) ?_
  show xV G l mM_X3_init K 32 [(1, .int (0 : Int32)), (0, .ref (xad G 1))] [] q5
  refine x_aload_n hC dX3_init_32 rfl (j := 1) rfl <| ?_
  refine x_getR (q := 2) (k := 0) (N := 1) hC dX3_init_33 wfl_X3_9 (by decide) (by decide) (by decide) (by decide +kernel) (by decide) (by decide +kernel) ?_
  refine x_sipush (v := (132 : Int32)) hC dX3_init_36 (by decide) <| x_iload_n hC dX3_init_39 rfl (j := 0) rfl <| x_iadd hC dX3_init_40 <| ?_
  show xV G l mM_X3_init K 41 [(1, .int (0 : Int32)), (0, .ref (xad G 1))] [.int (132 : Int32), .ref (xad G 2)] q5
  refine x_iconst (v := (3 : Int32)) hC dX3_init_41 (by decide) <| ?_
  refine x_iast (N := 194) hC dX3_init_42 (by decide) (by decide +kernel) (by decide) ?_
  show xV G l mM_X3_init K 43 [(1, .int (0 : Int32)), (0, .ref (xad G 1))] [] q6
  refine x_iinc hC dX3_init_43 (j := 0) (v := (1 : Int32)) rfl (by decide) (by decide) rfl <| x_goto (tgt := 15) hC dX3_init_46 (by decide) <| x_iload_n hC dX3_init_15 rfl (j := 0) rfl <| x_bipush (v := (60 : Int32)) hC dX3_init_16 (by decide) <| ?_
  refine x_icmp_ge (tgt := 49) hC dX3_init_18 (by decide) (fun c => absurd c (by decide)) (fun _ => ?_)
  refine x_aload_n hC dX3_init_21 rfl (j := 1) rfl <| ?_
  refine x_getR (q := 2) (k := 0) (N := 1) hC dX3_init_22 wfl_X3_9 (by decide) (by decide) (by decide) (by decide +kernel) (by decide) (by decide +kernel) ?_
  refine x_bipush (v := (72 : Int32)) hC dX3_init_25 (by decide) <| x_iload_n hC dX3_init_27 rfl (j := 0) rfl <| x_iadd hC dX3_init_28 <| ?_
  show xV G l mM_X3_init K 29 [(1, .int (1 : Int32)), (0, .ref (xad G 1))] [.int (73 : Int32), .ref (xad G 2)] q6
  refine x_bipush (v := (8 : Int32)) hC dX3_init_29 (by decide) <| ?_
  refine x_iast (N := 194) hC dX3_init_31 (by decide) (by decide +kernel) (by decide) ?_
  show xV G l mM_X3_init K 32 [(1, .int (1 : Int32)), (0, .ref (xad G 1))] [] q7
  refine x_aload_n hC dX3_init_32 rfl (j := 1) rfl <| ?_
  refine x_getR (q := 2) (k := 0) (N := 1) hC dX3_init_33 wfl_X3_9 (by decide) (by decide) (by decide) (by decide +kernel) (by decide) (by decide +kernel) ?_
  refine x_sipush (v := (132 : Int32)) hC dX3_init_36 (by decide) <| x_iload_n hC dX3_init_39 rfl (j := 0) rfl <| x_iadd hC dX3_init_40 <| ?_
  show xV G l mM_X3_init K 41 [(1, .int (1 : Int32)), (0, .ref (xad G 1))] [.int (133 : Int32), .ref (xad G 2)] q7
  refine x_iconst (v := (3 : Int32)) hC dX3_init_41 (by decide) <| ?_
  refine x_iast (N := 194) hC dX3_init_42 (by decide) (by decide +kernel) (by decide) ?_
  show xV G l mM_X3_init K 43 [(1, .int (1 : Int32)), (0, .ref (xad G 1))] [] q8
  refine x_iinc hC dX3_init_43 (j := 0) (v := (2 : Int32)) rfl (by decide) (by decide) rfl <| x_goto (tgt := 15) hC dX3_init_46 (by decide) <| x_iload_n hC dX3_init_15 rfl (j := 0) rfl <| x_bipush (v := (60 : Int32)) hC dX3_init_16 (by decide) <| ?_
  refine x_icmp_ge (tgt := 49) hC dX3_init_18 (by decide) (fun c => absurd c (by decide)) (fun _ => ?_)
  refine x_aload_n hC dX3_init_21 rfl (j := 1) rfl <| ?_
  refine x_getR (q := 2) (k := 0) (N := 1) hC dX3_init_22 wfl_X3_9 (by decide) (by decide) (by decide) (by decide +kernel) (by decide) (by decide +kernel) ?_
  refine x_bipush (v := (72 : Int32)) hC dX3_init_25 (by decide) <| x_iload_n hC dX3_init_27 rfl (j := 0) rfl <| x_iadd hC dX3_init_28 <| ?_
  show xV G l mM_X3_init K 29 [(1, .int (2 : Int32)), (0, .ref (xad G 1))] [.int (74 : Int32), .ref (xad G 2)] q8
  refine x_bipush (v := (8 : Int32)) hC dX3_init_29 (by decide) <| ?_
  refine x_iast (N := 194) hC dX3_init_31 (by decide) (by decide +kernel) (by decide) ?_
  show xV G l mM_X3_init K 32 [(1, .int (2 : Int32)), (0, .ref (xad G 1))] [] q9
  refine x_aload_n hC dX3_init_32 rfl (j := 1) rfl <| ?_
  refine x_getR (q := 2) (k := 0) (N := 1) hC dX3_init_33 wfl_X3_9 (by decide) (by decide) (by decide) (by decide +kernel) (by decide) (by decide +kernel) ?_
  refine x_sipush (v := (132 : Int32)) hC dX3_init_36 (by decide) <| x_iload_n hC dX3_init_39 rfl (j := 0) rfl <| x_iadd hC dX3_init_40 <| ?_
  show xV G l mM_X3_init K 41 [(1, .int (2 : Int32)), (0, .ref (xad G 1))] [.int (134 : Int32), .ref (xad G 2)] q9
  refine x_iconst (v := (3 : Int32)) hC dX3_init_41 (by decide) <| ?_
  refine x_iast (N := 194) hC dX3_init_42 (by decide) (by decide +kernel) (by decide) ?_
  show xV G l mM_X3_init K 43 [(1, .int (2 : Int32)), (0, .ref (xad G 1))] [] q10
  refine x_iinc hC dX3_init_43 (j := 0) (v := (3 : Int32)) rfl (by decide) (by decide) rfl <| x_goto (tgt := 15) hC dX3_init_46 (by decide) <| x_iload_n hC dX3_init_15 rfl (j := 0) rfl <| x_bipush (v := (60 : Int32)) hC dX3_init_16 (by decide) <| ?_
  refine x_icmp_ge (tgt := 49) hC dX3_init_18 (by decide) (fun c => absurd c (by decide)) (fun _ => ?_)
  refine x_aload_n hC dX3_init_21 rfl (j := 1) rfl <| ?_
  refine x_getR (q := 2) (k := 0) (N := 1) hC dX3_init_22 wfl_X3_9 (by decide) (by decide) (by decide) (by decide +kernel) (by decide) (by decide +kernel) ?_
  refine x_bipush (v := (72 : Int32)) hC dX3_init_25 (by decide) <| x_iload_n hC dX3_init_27 rfl (j := 0) rfl <| x_iadd hC dX3_init_28 <| ?_
  show xV G l mM_X3_init K 29 [(1, .int (3 : Int32)), (0, .ref (xad G 1))] [.int (75 : Int32), .ref (xad G 2)] q10
  refine x_bipush (v := (8 : Int32)) hC dX3_init_29 (by decide) <| ?_
  refine x_iast (N := 194) hC dX3_init_31 (by decide) (by decide +kernel) (by decide) ?_
  show xV G l mM_X3_init K 32 [(1, .int (3 : Int32)), (0, .ref (xad G 1))] [] q11
  refine x_aload_n hC dX3_init_32 rfl (j := 1) rfl <| ?_
  refine x_getR (q := 2) (k := 0) (N := 1) hC dX3_init_33 wfl_X3_9 (by decide) (by decide) (by decide) (by decide +kernel) (by decide) (by decide +kernel) ?_
  refine x_sipush (v := (132 : Int32)) hC dX3_init_36 (by decide) <| x_iload_n hC dX3_init_39 rfl (j := 0) rfl <| x_iadd hC dX3_init_40 <| ?_
  show xV G l mM_X3_init K 41 [(1, .int (3 : Int32)), (0, .ref (xad G 1))] [.int (135 : Int32), .ref (xad G 2)] q11
  refine x_iconst (v := (3 : Int32)) hC dX3_init_41 (by decide) <| ?_
  refine x_iast (N := 194) hC dX3_init_42 (by decide) (by decide +kernel) (by decide) ?_
  show xV G l mM_X3_init K 43 [(1, .int (3 : Int32)), (0, .ref (xad G 1))] [] q12
  refine x_iinc hC dX3_init_43 (j := 0) (v := (4 : Int32)) rfl (by decide) (by decide) rfl <| x_goto (tgt := 15) hC dX3_init_46 (by decide) <| x_iload_n hC dX3_init_15 rfl (j := 0) rfl <| x_bipush (v := (60 : Int32)) hC dX3_init_16 (by decide) <| ?_
  refine x_icmp_ge (tgt := 49) hC dX3_init_18 (by decide) (fun c => absurd c (by decide)) (fun _ => ?_)
  refine x_aload_n hC dX3_init_21 rfl (j := 1) rfl <| ?_
  refine x_getR (q := 2) (k := 0) (N := 1) hC dX3_init_22 wfl_X3_9 (by decide) (by decide) (by decide) (by decide +kernel) (by decide) (by decide +kernel) ?_
  refine x_bipush (v := (72 : Int32)) hC dX3_init_25 (by decide) <| x_iload_n hC dX3_init_27 rfl (j := 0) rfl <| x_iadd hC dX3_init_28 <| ?_
  show xV G l mM_X3_init K 29 [(1, .int (4 : Int32)), (0, .ref (xad G 1))] [.int (76 : Int32), .ref (xad G 2)] q12
  refine x_bipush (v := (8 : Int32)) hC dX3_init_29 (by decide) <| ?_
  refine x_iast (N := 194) hC dX3_init_31 (by decide) (by decide +kernel) (by decide) ?_
  show xV G l mM_X3_init K 32 [(1, .int (4 : Int32)), (0, .ref (xad G 1))] [] q13
  refine x_aload_n hC dX3_init_32 rfl (j := 1) rfl <| ?_
  refine x_getR (q := 2) (k := 0) (N := 1) hC dX3_init_33 wfl_X3_9 (by decide) (by decide) (by decide) (by decide +kernel) (by decide) (by decide +kernel) ?_
  refine x_sipush (v := (132 : Int32)) hC dX3_init_36 (by decide) <| x_iload_n hC dX3_init_39 rfl (j := 0) rfl <| x_iadd hC dX3_init_40 <| ?_
  show xV G l mM_X3_init K 41 [(1, .int (4 : Int32)), (0, .ref (xad G 1))] [.int (136 : Int32), .ref (xad G 2)] q13
  refine x_iconst (v := (3 : Int32)) hC dX3_init_41 (by decide) <| ?_
  refine x_iast (N := 194) hC dX3_init_42 (by decide) (by decide +kernel) (by decide) ?_
  show xV G l mM_X3_init K 43 [(1, .int (4 : Int32)), (0, .ref (xad G 1))] [] q14
  refine x_iinc hC dX3_init_43 (j := 0) (v := (5 : Int32)) rfl (by decide) (by decide) rfl <| x_goto (tgt := 15) hC dX3_init_46 (by decide) <| x_iload_n hC dX3_init_15 rfl (j := 0) rfl <| x_bipush (v := (60 : Int32)) hC dX3_init_16 (by decide) <| ?_
  refine x_icmp_ge (tgt := 49) hC dX3_init_18 (by decide) (fun c => absurd c (by decide)) (fun _ => ?_)
  refine x_aload_n hC dX3_init_21 rfl (j := 1) rfl <| ?_
  refine x_getR (q := 2) (k := 0) (N := 1) hC dX3_init_22 wfl_X3_9 (by decide) (by decide) (by decide) (by decide +kernel) (by decide) (by decide +kernel) ?_
  refine x_bipush (v := (72 : Int32)) hC dX3_init_25 (by decide) <| x_iload_n hC dX3_init_27 rfl (j := 0) rfl <| x_iadd hC dX3_init_28 <| ?_
  show xV G l mM_X3_init K 29 [(1, .int (5 : Int32)), (0, .ref (xad G 1))] [.int (77 : Int32), .ref (xad G 2)] q14
  refine x_bipush (v := (8 : Int32)) hC dX3_init_29 (by decide) <| ?_
  refine x_iast (N := 194) hC dX3_init_31 (by decide) (by decide +kernel) (by decide) ?_
  show xV G l mM_X3_init K 32 [(1, .int (5 : Int32)), (0, .ref (xad G 1))] [] q15
  refine x_aload_n hC dX3_init_32 rfl (j := 1) rfl <| ?_
  refine x_getR (q := 2) (k := 0) (N := 1) hC dX3_init_33 wfl_X3_9 (by decide) (by decide) (by decide) (by decide +kernel) (by decide) (by decide +kernel) ?_
  refine x_sipush (v := (132 : Int32)) hC dX3_init_36 (by decide) <| x_iload_n hC dX3_init_39 rfl (j := 0) rfl <| x_iadd hC dX3_init_40 <| ?_
  show xV G l mM_X3_init K 41 [(1, .int (5 : Int32)), (0, .ref (xad G 1))] [.int (137 : Int32), .ref (xad G 2)] q15
  refine x_iconst (v := (3 : Int32)) hC dX3_init_41 (by decide) <| ?_
  refine x_iast (N := 194) hC dX3_init_42 (by decide) (by decide +kernel) (by decide) ?_
  show xV G l mM_X3_init K 43 [(1, .int (5 : Int32)), (0, .ref (xad G 1))] [] q16
  refine x_iinc hC dX3_init_43 (j := 0) (v := (6 : Int32)) rfl (by decide) (by decide) rfl <| x_goto (tgt := 15) hC dX3_init_46 (by decide) <| x_iload_n hC dX3_init_15 rfl (j := 0) rfl <| x_bipush (v := (60 : Int32)) hC dX3_init_16 (by decide) <| ?_
  refine x_icmp_ge (tgt := 49) hC dX3_init_18 (by decide) (fun c => absurd c (by decide)) (fun _ => ?_)
  refine x_aload_n hC dX3_init_21 rfl (j := 1) rfl <| ?_
  refine x_getR (q := 2) (k := 0) (N := 1) hC dX3_init_22 wfl_X3_9 (by decide) (by decide) (by decide) (by decide +kernel) (by decide) (by decide +kernel) ?_
  refine x_bipush (v := (72 : Int32)) hC dX3_init_25 (by decide) <| x_iload_n hC dX3_init_27 rfl (j := 0) rfl <| x_iadd hC dX3_init_28 <| ?_
  show xV G l mM_X3_init K 29 [(1, .int (6 : Int32)), (0, .ref (xad G 1))] [.int (78 : Int32), .ref (xad G 2)] q16
  refine x_bipush (v := (8 : Int32)) hC dX3_init_29 (by decide) <| ?_
  refine x_iast (N := 194) hC dX3_init_31 (by decide) (by decide +kernel) (by decide) ?_
  show xV G l mM_X3_init K 32 [(1, .int (6 : Int32)), (0, .ref (xad G 1))] [] q17
  refine x_aload_n hC dX3_init_32 rfl (j := 1) rfl <| ?_
  refine x_getR (q := 2) (k := 0) (N := 1) hC dX3_init_33 wfl_X3_9 (by decide) (by decide) (by decide) (by decide +kernel) (by decide) (by decide +kernel) ?_
  refine x_sipush (v := (132 : Int32)) hC dX3_init_36 (by decide) <| x_iload_n hC dX3_init_39 rfl (j := 0) rfl <| x_iadd hC dX3_init_40 <| ?_
  show xV G l mM_X3_init K 41 [(1, .int (6 : Int32)), (0, .ref (xad G 1))] [.int (138 : Int32), .ref (xad G 2)] q17
  refine x_iconst (v := (3 : Int32)) hC dX3_init_41 (by decide) <| ?_
  refine x_iast (N := 194) hC dX3_init_42 (by decide) (by decide +kernel) (by decide) ?_
  show xV G l mM_X3_init K 43 [(1, .int (6 : Int32)), (0, .ref (xad G 1))] [] q18
  refine x_iinc hC dX3_init_43 (j := 0) (v := (7 : Int32)) rfl (by decide) (by decide) rfl <| x_goto (tgt := 15) hC dX3_init_46 (by decide) <| x_iload_n hC dX3_init_15 rfl (j := 0) rfl <| x_bipush (v := (60 : Int32)) hC dX3_init_16 (by decide) <| ?_
  refine x_icmp_ge (tgt := 49) hC dX3_init_18 (by decide) (fun c => absurd c (by decide)) (fun _ => ?_)
  refine x_aload_n hC dX3_init_21 rfl (j := 1) rfl <| ?_
  refine x_getR (q := 2) (k := 0) (N := 1) hC dX3_init_22 wfl_X3_9 (by decide) (by decide) (by decide) (by decide +kernel) (by decide) (by decide +kernel) ?_
  refine x_bipush (v := (72 : Int32)) hC dX3_init_25 (by decide) <| x_iload_n hC dX3_init_27 rfl (j := 0) rfl <| x_iadd hC dX3_init_28 <| ?_
  show xV G l mM_X3_init K 29 [(1, .int (7 : Int32)), (0, .ref (xad G 1))] [.int (79 : Int32), .ref (xad G 2)] q18
  refine x_bipush (v := (8 : Int32)) hC dX3_init_29 (by decide) <| ?_
  refine x_iast (N := 194) hC dX3_init_31 (by decide) (by decide +kernel) (by decide) ?_
  show xV G l mM_X3_init K 32 [(1, .int (7 : Int32)), (0, .ref (xad G 1))] [] q19
  refine x_aload_n hC dX3_init_32 rfl (j := 1) rfl <| ?_
  refine x_getR (q := 2) (k := 0) (N := 1) hC dX3_init_33 wfl_X3_9 (by decide) (by decide) (by decide) (by decide +kernel) (by decide) (by decide +kernel) ?_
  refine x_sipush (v := (132 : Int32)) hC dX3_init_36 (by decide) <| x_iload_n hC dX3_init_39 rfl (j := 0) rfl <| x_iadd hC dX3_init_40 <| ?_
  show xV G l mM_X3_init K 41 [(1, .int (7 : Int32)), (0, .ref (xad G 1))] [.int (139 : Int32), .ref (xad G 2)] q19
  refine x_iconst (v := (3 : Int32)) hC dX3_init_41 (by decide) <| ?_
  refine x_iast (N := 194) hC dX3_init_42 (by decide) (by decide +kernel) (by decide) ?_
  show xV G l mM_X3_init K 43 [(1, .int (7 : Int32)), (0, .ref (xad G 1))] [] q20
  refine x_iinc hC dX3_init_43 (j := 0) (v := (8 : Int32)) rfl (by decide) (by decide) rfl <| x_goto (tgt := 15) hC dX3_init_46 (by decide) <| x_iload_n hC dX3_init_15 rfl (j := 0) rfl <| x_bipush (v := (60 : Int32)) hC dX3_init_16 (by decide) <| ?_
  refine x_icmp_ge (tgt := 49) hC dX3_init_18 (by decide) (fun c => absurd c (by decide)) (fun _ => ?_)
  refine x_aload_n hC dX3_init_21 rfl (j := 1) rfl <| ?_
  refine x_getR (q := 2) (k := 0) (N := 1) hC dX3_init_22 wfl_X3_9 (by decide) (by decide) (by decide) (by decide +kernel) (by decide) (by decide +kernel) ?_
  refine x_bipush (v := (72 : Int32)) hC dX3_init_25 (by decide) <| x_iload_n hC dX3_init_27 rfl (j := 0) rfl <| x_iadd hC dX3_init_28 <| ?_
  show xV G l mM_X3_init K 29 [(1, .int (8 : Int32)), (0, .ref (xad G 1))] [.int (80 : Int32), .ref (xad G 2)] q20
  refine x_bipush (v := (8 : Int32)) hC dX3_init_29 (by decide) <| ?_
  refine x_iast (N := 194) hC dX3_init_31 (by decide) (by decide +kernel) (by decide) ?_
  show xV G l mM_X3_init K 32 [(1, .int (8 : Int32)), (0, .ref (xad G 1))] [] q21
  refine x_aload_n hC dX3_init_32 rfl (j := 1) rfl <| ?_
  refine x_getR (q := 2) (k := 0) (N := 1) hC dX3_init_33 wfl_X3_9 (by decide) (by decide) (by decide) (by decide +kernel) (by decide) (by decide +kernel) ?_
  refine x_sipush (v := (132 : Int32)) hC dX3_init_36 (by decide) <| x_iload_n hC dX3_init_39 rfl (j := 0) rfl <| x_iadd hC dX3_init_40 <| ?_
  show xV G l mM_X3_init K 41 [(1, .int (8 : Int32)), (0, .ref (xad G 1))] [.int (140 : Int32), .ref (xad G 2)] q21
  refine x_iconst (v := (3 : Int32)) hC dX3_init_41 (by decide) <| ?_
  refine x_iast (N := 194) hC dX3_init_42 (by decide) (by decide +kernel) (by decide) ?_
  show xV G l mM_X3_init K 43 [(1, .int (8 : Int32)), (0, .ref (xad G 1))] [] q22
  refine x_iinc hC dX3_init_43 (j := 0) (v := (9 : Int32)) rfl (by decide) (by decide) rfl <| x_goto (tgt := 15) hC dX3_init_46 (by decide) <| x_iload_n hC dX3_init_15 rfl (j := 0) rfl <| x_bipush (v := (60 : Int32)) hC dX3_init_16 (by decide) <| ?_
  refine x_icmp_ge (tgt := 49) hC dX3_init_18 (by decide) (fun c => absurd c (by decide)) (fun _ => ?_)
  refine x_aload_n hC dX3_init_21 rfl (j := 1) rfl <| ?_
  refine x_getR (q := 2) (k := 0) (N := 1) hC dX3_init_22 wfl_X3_9 (by decide) (by decide) (by decide) (by decide +kernel) (by decide) (by decide +kernel) ?_
  refine x_bipush (v := (72 : Int32)) hC dX3_init_25 (by decide) <| x_iload_n hC dX3_init_27 rfl (j := 0) rfl <| x_iadd hC dX3_init_28 <| ?_
  show xV G l mM_X3_init K 29 [(1, .int (9 : Int32)), (0, .ref (xad G 1))] [.int (81 : Int32), .ref (xad G 2)] q22
  refine x_bipush (v := (8 : Int32)) hC dX3_init_29 (by decide) <| ?_
  refine x_iast (N := 194) hC dX3_init_31 (by decide) (by decide +kernel) (by decide) ?_
  show xV G l mM_X3_init K 32 [(1, .int (9 : Int32)), (0, .ref (xad G 1))] [] q23
  refine x_aload_n hC dX3_init_32 rfl (j := 1) rfl <| ?_
  refine x_getR (q := 2) (k := 0) (N := 1) hC dX3_init_33 wfl_X3_9 (by decide) (by decide) (by decide) (by decide +kernel) (by decide) (by decide +kernel) ?_
  refine x_sipush (v := (132 : Int32)) hC dX3_init_36 (by decide) <| x_iload_n hC dX3_init_39 rfl (j := 0) rfl <| x_iadd hC dX3_init_40 <| ?_
  show xV G l mM_X3_init K 41 [(1, .int (9 : Int32)), (0, .ref (xad G 1))] [.int (141 : Int32), .ref (xad G 2)] q23
  refine x_iconst (v := (3 : Int32)) hC dX3_init_41 (by decide) <| ?_
  refine x_iast (N := 194) hC dX3_init_42 (by decide) (by decide +kernel) (by decide) ?_
  show xV G l mM_X3_init K 43 [(1, .int (9 : Int32)), (0, .ref (xad G 1))] [] q24
  refine x_iinc hC dX3_init_43 (j := 0) (v := (10 : Int32)) rfl (by decide) (by decide) rfl <| x_goto (tgt := 15) hC dX3_init_46 (by decide) <| x_iload_n hC dX3_init_15 rfl (j := 0) rfl <| x_bipush (v := (60 : Int32)) hC dX3_init_16 (by decide) <| ?_
  refine x_icmp_ge (tgt := 49) hC dX3_init_18 (by decide) (fun c => absurd c (by decide)) (fun _ => ?_)
  refine x_aload_n hC dX3_init_21 rfl (j := 1) rfl <| ?_
  refine x_getR (q := 2) (k := 0) (N := 1) hC dX3_init_22 wfl_X3_9 (by decide) (by decide) (by decide) (by decide +kernel) (by decide) (by decide +kernel) ?_
  refine x_bipush (v := (72 : Int32)) hC dX3_init_25 (by decide) <| x_iload_n hC dX3_init_27 rfl (j := 0) rfl <| x_iadd hC dX3_init_28 <| ?_
  show xV G l mM_X3_init K 29 [(1, .int (10 : Int32)), (0, .ref (xad G 1))] [.int (82 : Int32), .ref (xad G 2)] q24
  refine x_bipush (v := (8 : Int32)) hC dX3_init_29 (by decide) <| ?_
  refine x_iast (N := 194) hC dX3_init_31 (by decide) (by decide +kernel) (by decide) ?_
  show xV G l mM_X3_init K 32 [(1, .int (10 : Int32)), (0, .ref (xad G 1))] [] q25
  refine x_aload_n hC dX3_init_32 rfl (j := 1) rfl <| ?_
  refine x_getR (q := 2) (k := 0) (N := 1) hC dX3_init_33 wfl_X3_9 (by decide) (by decide) (by decide) (by decide +kernel) (by decide) (by decide +kernel) ?_
  refine x_sipush (v := (132 : Int32)) hC dX3_init_36 (by decide) <| x_iload_n hC dX3_init_39 rfl (j := 0) rfl <| x_iadd hC dX3_init_40 <| ?_
  show xV G l mM_X3_init K 41 [(1, .int (10 : Int32)), (0, .ref (xad G 1))] [.int (142 : Int32), .ref (xad G 2)] q25
  refine x_iconst (v := (3 : Int32)) hC dX3_init_41 (by decide) <| ?_
  refine x_iast (N := 194) hC dX3_init_42 (by decide) (by decide +kernel) (by decide) ?_
  show xV G l mM_X3_init K 43 [(1, .int (10 : Int32)), (0, .ref (xad G 1))] [] q26
  refine x_iinc hC dX3_init_43 (j := 0) (v := (11 : Int32)) rfl (by decide) (by decide) rfl <| x_goto (tgt := 15) hC dX3_init_46 (by decide) <| x_iload_n hC dX3_init_15 rfl (j := 0) rfl <| x_bipush (v := (60 : Int32)) hC dX3_init_16 (by decide) <| ?_
  refine x_icmp_ge (tgt := 49) hC dX3_init_18 (by decide) (fun c => absurd c (by decide)) (fun _ => ?_)
  refine x_aload_n hC dX3_init_21 rfl (j := 1) rfl <| ?_
  refine x_getR (q := 2) (k := 0) (N := 1) hC dX3_init_22 wfl_X3_9 (by decide) (by decide) (by decide) (by decide +kernel) (by decide) (by decide +kernel) ?_
  refine x_bipush (v := (72 : Int32)) hC dX3_init_25 (by decide) <| x_iload_n hC dX3_init_27 rfl (j := 0) rfl <| x_iadd hC dX3_init_28 <| ?_
  show xV G l mM_X3_init K 29 [(1, .int (11 : Int32)), (0, .ref (xad G 1))] [.int (83 : Int32), .ref (xad G 2)] q26
  refine x_bipush (v := (8 : Int32)) hC dX3_init_29 (by decide) <| ?_
  refine x_iast (N := 194) hC dX3_init_31 (by decide) (by decide +kernel) (by decide) ?_
  show xV G l mM_X3_init K 32 [(1, .int (11 : Int32)), (0, .ref (xad G 1))] [] q27
  refine x_aload_n hC dX3_init_32 rfl (j := 1) rfl <| ?_
  refine x_getR (q := 2) (k := 0) (N := 1) hC dX3_init_33 wfl_X3_9 (by decide) (by decide) (by decide) (by decide +kernel) (by decide) (by decide +kernel) ?_
  refine x_sipush (v := (132 : Int32)) hC dX3_init_36 (by decide) <| x_iload_n hC dX3_init_39 rfl (j := 0) rfl <| x_iadd hC dX3_init_40 <| ?_
  show xV G l mM_X3_init K 41 [(1, .int (11 : Int32)), (0, .ref (xad G 1))] [.int (143 : Int32), .ref (xad G 2)] q27
  refine x_iconst (v := (3 : Int32)) hC dX3_init_41 (by decide) <| ?_
  refine x_iast (N := 194) hC dX3_init_42 (by decide) (by decide +kernel) (by decide) ?_
  show xV G l mM_X3_init K 43 [(1, .int (11 : Int32)), (0, .ref (xad G 1))] [] q28
  refine x_iinc hC dX3_init_43 (j := 0) (v := (12 : Int32)) rfl (by decide) (by decide) rfl <| x_goto (tgt := 15) hC dX3_init_46 (by decide) <| x_iload_n hC dX3_init_15 rfl (j := 0) rfl <| x_bipush (v := (60 : Int32)) hC dX3_init_16 (by decide) <| ?_
  refine x_icmp_ge (tgt := 49) hC dX3_init_18 (by decide) (fun c => absurd c (by decide)) (fun _ => ?_)
  refine x_aload_n hC dX3_init_21 rfl (j := 1) rfl <| ?_
  refine x_getR (q := 2) (k := 0) (N := 1) hC dX3_init_22 wfl_X3_9 (by decide) (by decide) (by decide) (by decide +kernel) (by decide) (by decide +kernel) ?_
  refine x_bipush (v := (72 : Int32)) hC dX3_init_25 (by decide) <| x_iload_n hC dX3_init_27 rfl (j := 0) rfl <| x_iadd hC dX3_init_28 <| ?_
  show xV G l mM_X3_init K 29 [(1, .int (12 : Int32)), (0, .ref (xad G 1))] [.int (84 : Int32), .ref (xad G 2)] q28
  refine x_bipush (v := (8 : Int32)) hC dX3_init_29 (by decide) <| ?_
  refine x_iast (N := 194) hC dX3_init_31 (by decide) (by decide +kernel) (by decide) ?_
  show xV G l mM_X3_init K 32 [(1, .int (12 : Int32)), (0, .ref (xad G 1))] [] q29
  refine x_aload_n hC dX3_init_32 rfl (j := 1) rfl <| ?_
  refine x_getR (q := 2) (k := 0) (N := 1) hC dX3_init_33 wfl_X3_9 (by decide) (by decide) (by decide) (by decide +kernel) (by decide) (by decide +kernel) ?_
  refine x_sipush (v := (132 : Int32)) hC dX3_init_36 (by decide) <| x_iload_n hC dX3_init_39 rfl (j := 0) rfl <| x_iadd hC dX3_init_40 <| ?_
  show xV G l mM_X3_init K 41 [(1, .int (12 : Int32)), (0, .ref (xad G 1))] [.int (144 : Int32), .ref (xad G 2)] q29
  refine x_iconst (v := (3 : Int32)) hC dX3_init_41 (by decide) <| ?_
  refine x_iast (N := 194) hC dX3_init_42 (by decide) (by decide +kernel) (by decide) ?_
  show xV G l mM_X3_init K 43 [(1, .int (12 : Int32)), (0, .ref (xad G 1))] [] q30
  refine x_iinc hC dX3_init_43 (j := 0) (v := (13 : Int32)) rfl (by decide) (by decide) rfl <| x_goto (tgt := 15) hC dX3_init_46 (by decide) <| x_iload_n hC dX3_init_15 rfl (j := 0) rfl <| x_bipush (v := (60 : Int32)) hC dX3_init_16 (by decide) <| ?_
  refine x_icmp_ge (tgt := 49) hC dX3_init_18 (by decide) (fun c => absurd c (by decide)) (fun _ => ?_)
  refine x_aload_n hC dX3_init_21 rfl (j := 1) rfl <| ?_
  refine x_getR (q := 2) (k := 0) (N := 1) hC dX3_init_22 wfl_X3_9 (by decide) (by decide) (by decide) (by decide +kernel) (by decide) (by decide +kernel) ?_
  refine x_bipush (v := (72 : Int32)) hC dX3_init_25 (by decide) <| x_iload_n hC dX3_init_27 rfl (j := 0) rfl <| x_iadd hC dX3_init_28 <| ?_
  show xV G l mM_X3_init K 29 [(1, .int (13 : Int32)), (0, .ref (xad G 1))] [.int (85 : Int32), .ref (xad G 2)] q30
  refine x_bipush (v := (8 : Int32)) hC dX3_init_29 (by decide) <| ?_
  refine x_iast (N := 194) hC dX3_init_31 (by decide) (by decide +kernel) (by decide) ?_
  show xV G l mM_X3_init K 32 [(1, .int (13 : Int32)), (0, .ref (xad G 1))] [] q31
  refine x_aload_n hC dX3_init_32 rfl (j := 1) rfl <| ?_
  refine x_getR (q := 2) (k := 0) (N := 1) hC dX3_init_33 wfl_X3_9 (by decide) (by decide) (by decide) (by decide +kernel) (by decide) (by decide +kernel) ?_
  refine x_sipush (v := (132 : Int32)) hC dX3_init_36 (by decide) <| x_iload_n hC dX3_init_39 rfl (j := 0) rfl <| x_iadd hC dX3_init_40 <| ?_
  show xV G l mM_X3_init K 41 [(1, .int (13 : Int32)), (0, .ref (xad G 1))] [.int (145 : Int32), .ref (xad G 2)] q31
  refine x_iconst (v := (3 : Int32)) hC dX3_init_41 (by decide) <| ?_
  refine x_iast (N := 194) hC dX3_init_42 (by decide) (by decide +kernel) (by decide) ?_
  show xV G l mM_X3_init K 43 [(1, .int (13 : Int32)), (0, .ref (xad G 1))] [] q32
  refine x_iinc hC dX3_init_43 (j := 0) (v := (14 : Int32)) rfl (by decide) (by decide) rfl <| x_goto (tgt := 15) hC dX3_init_46 (by decide) <| x_iload_n hC dX3_init_15 rfl (j := 0) rfl <| x_bipush (v := (60 : Int32)) hC dX3_init_16 (by decide) <| ?_
  refine x_icmp_ge (tgt := 49) hC dX3_init_18 (by decide) (fun c => absurd c (by decide)) (fun _ => ?_)
  refine x_aload_n hC dX3_init_21 rfl (j := 1) rfl <| ?_
  refine x_getR (q := 2) (k := 0) (N := 1) hC dX3_init_22 wfl_X3_9 (by decide) (by decide) (by decide) (by decide +kernel) (by decide) (by decide +kernel) ?_
  refine x_bipush (v := (72 : Int32)) hC dX3_init_25 (by decide) <| x_iload_n hC dX3_init_27 rfl (j := 0) rfl <| x_iadd hC dX3_init_28 <| ?_
  show xV G l mM_X3_init K 29 [(1, .int (14 : Int32)), (0, .ref (xad G 1))] [.int (86 : Int32), .ref (xad G 2)] q32
  refine x_bipush (v := (8 : Int32)) hC dX3_init_29 (by decide) <| ?_
  refine x_iast (N := 194) hC dX3_init_31 (by decide) (by decide +kernel) (by decide) ?_
  show xV G l mM_X3_init K 32 [(1, .int (14 : Int32)), (0, .ref (xad G 1))] [] q33
  refine x_aload_n hC dX3_init_32 rfl (j := 1) rfl <| ?_
  refine x_getR (q := 2) (k := 0) (N := 1) hC dX3_init_33 wfl_X3_9 (by decide) (by decide) (by decide) (by decide +kernel) (by decide) (by decide +kernel) ?_
  refine x_sipush (v := (132 : Int32)) hC dX3_init_36 (by decide) <| x_iload_n hC dX3_init_39 rfl (j := 0) rfl <| x_iadd hC dX3_init_40 <| ?_
  show xV G l mM_X3_init K 41 [(1, .int (14 : Int32)), (0, .ref (xad G 1))] [.int (146 : Int32), .ref (xad G 2)] q33
  refine x_iconst (v := (3 : Int32)) hC dX3_init_41 (by decide) <| ?_
  refine x_iast (N := 194) hC dX3_init_42 (by decide) (by decide +kernel) (by decide) ?_
  show xV G l mM_X3_init K 43 [(1, .int (14 : Int32)), (0, .ref (xad G 1))] [] q34
  refine x_iinc hC dX3_init_43 (j := 0) (v := (15 : Int32)) rfl (by decide) (by decide) rfl <| x_goto (tgt := 15) hC dX3_init_46 (by decide) <| x_iload_n hC dX3_init_15 rfl (j := 0) rfl <| x_bipush (v := (60 : Int32)) hC dX3_init_16 (by decide) <| ?_
  refine x_icmp_ge (tgt := 49) hC dX3_init_18 (by decide) (fun c => absurd c (by decide)) (fun _ => ?_)
  refine x_aload_n hC dX3_init_21 rfl (j := 1) rfl <| ?_
  refine x_getR (q := 2) (k := 0) (N := 1) hC dX3_init_22 wfl_X3_9 (by decide) (by decide) (by decide) (by decide +kernel) (by decide) (by decide +kernel) ?_
  refine x_bipush (v := (72 : Int32)) hC dX3_init_25 (by decide) <| x_iload_n hC dX3_init_27 rfl (j := 0) rfl <| x_iadd hC dX3_init_28 <| ?_
  show xV G l mM_X3_init K 29 [(1, .int (15 : Int32)), (0, .ref (xad G 1))] [.int (87 : Int32), .ref (xad G 2)] q34
  refine x_bipush (v := (8 : Int32)) hC dX3_init_29 (by decide) <| ?_
  refine x_iast (N := 194) hC dX3_init_31 (by decide) (by decide +kernel) (by decide) ?_
  show xV G l mM_X3_init K 32 [(1, .int (15 : Int32)), (0, .ref (xad G 1))] [] q35
  refine x_aload_n hC dX3_init_32 rfl (j := 1) rfl <| ?_
  refine x_getR (q := 2) (k := 0) (N := 1) hC dX3_init_33 wfl_X3_9 (by decide) (by decide) (by decide) (by decide +kernel) (by decide) (by decide +kernel) ?_
  refine x_sipush (v := (132 : Int32)) hC dX3_init_36 (by decide) <| x_iload_n hC dX3_init_39 rfl (j := 0) rfl <| x_iadd hC dX3_init_40 <| ?_
  show xV G l mM_X3_init K 41 [(1, .int (15 : Int32)), (0, .ref (xad G 1))] [.int (147 : Int32), .ref (xad G 2)] q35
  refine x_iconst (v := (3 : Int32)) hC dX3_init_41 (by decide) <| ?_
  refine x_iast (N := 194) hC dX3_init_42 (by decide) (by decide +kernel) (by decide) ?_
  show xV G l mM_X3_init K 43 [(1, .int (15 : Int32)), (0, .ref (xad G 1))] [] q36
  refine x_iinc hC dX3_init_43 (j := 0) (v := (16 : Int32)) rfl (by decide) (by decide) rfl <| x_goto (tgt := 15) hC dX3_init_46 (by decide) <| x_iload_n hC dX3_init_15 rfl (j := 0) rfl <| x_bipush (v := (60 : Int32)) hC dX3_init_16 (by decide) <| ?_
  refine x_icmp_ge (tgt := 49) hC dX3_init_18 (by decide) (fun c => absurd c (by decide)) (fun _ => ?_)
  refine x_aload_n hC dX3_init_21 rfl (j := 1) rfl <| ?_
  refine x_getR (q := 2) (k := 0) (N := 1) hC dX3_init_22 wfl_X3_9 (by decide) (by decide) (by decide) (by decide +kernel) (by decide) (by decide +kernel) ?_
  refine x_bipush (v := (72 : Int32)) hC dX3_init_25 (by decide) <| x_iload_n hC dX3_init_27 rfl (j := 0) rfl <| x_iadd hC dX3_init_28 <| ?_
  show xV G l mM_X3_init K 29 [(1, .int (16 : Int32)), (0, .ref (xad G 1))] [.int (88 : Int32), .ref (xad G 2)] q36
  refine x_bipush (v := (8 : Int32)) hC dX3_init_29 (by decide) <| ?_
  refine x_iast (N := 194) hC dX3_init_31 (by decide) (by decide +kernel) (by decide) ?_
  show xV G l mM_X3_init K 32 [(1, .int (16 : Int32)), (0, .ref (xad G 1))] [] q37
  refine x_aload_n hC dX3_init_32 rfl (j := 1) rfl <| ?_
  refine x_getR (q := 2) (k := 0) (N := 1) hC dX3_init_33 wfl_X3_9 (by decide) (by decide) (by decide) (by decide +kernel) (by decide) (by decide +kernel) ?_
  refine x_sipush (v := (132 : Int32)) hC dX3_init_36 (by decide) <| x_iload_n hC dX3_init_39 rfl (j := 0) rfl <| x_iadd hC dX3_init_40 <| ?_
  show xV G l mM_X3_init K 41 [(1, .int (16 : Int32)), (0, .ref (xad G 1))] [.int (148 : Int32), .ref (xad G 2)] q37
  refine x_iconst (v := (3 : Int32)) hC dX3_init_41 (by decide) <| ?_
  refine x_iast (N := 194) hC dX3_init_42 (by decide) (by decide +kernel) (by decide) ?_
  show xV G l mM_X3_init K 43 [(1, .int (16 : Int32)), (0, .ref (xad G 1))] [] q38
  refine x_iinc hC dX3_init_43 (j := 0) (v := (17 : Int32)) rfl (by decide) (by decide) rfl <| x_goto (tgt := 15) hC dX3_init_46 (by decide) <| x_iload_n hC dX3_init_15 rfl (j := 0) rfl <| x_bipush (v := (60 : Int32)) hC dX3_init_16 (by decide) <| ?_
  refine x_icmp_ge (tgt := 49) hC dX3_init_18 (by decide) (fun c => absurd c (by decide)) (fun _ => ?_)
  refine x_aload_n hC dX3_init_21 rfl (j := 1) rfl <| ?_
  refine x_getR (q := 2) (k := 0) (N := 1) hC dX3_init_22 wfl_X3_9 (by decide) (by decide) (by decide) (by decide +kernel) (by decide) (by decide +kernel) ?_
  refine x_bipush (v := (72 : Int32)) hC dX3_init_25 (by decide) <| x_iload_n hC dX3_init_27 rfl (j := 0) rfl <| x_iadd hC dX3_init_28 <| ?_
  show xV G l mM_X3_init K 29 [(1, .int (17 : Int32)), (0, .ref (xad G 1))] [.int (89 : Int32), .ref (xad G 2)] q38
  refine x_bipush (v := (8 : Int32)) hC dX3_init_29 (by decide) <| ?_
  refine x_iast (N := 194) hC dX3_init_31 (by decide) (by decide +kernel) (by decide) ?_
  show xV G l mM_X3_init K 32 [(1, .int (17 : Int32)), (0, .ref (xad G 1))] [] q39
  refine x_aload_n hC dX3_init_32 rfl (j := 1) rfl <| ?_
  refine x_getR (q := 2) (k := 0) (N := 1) hC dX3_init_33 wfl_X3_9 (by decide) (by decide) (by decide) (by decide +kernel) (by decide) (by decide +kernel) ?_
  refine x_sipush (v := (132 : Int32)) hC dX3_init_36 (by decide) <| x_iload_n hC dX3_init_39 rfl (j := 0) rfl <| x_iadd hC dX3_init_40 <| ?_
  show xV G l mM_X3_init K 41 [(1, .int (17 : Int32)), (0, .ref (xad G 1))] [.int (149 : Int32), .ref (xad G 2)] q39
  refine x_iconst (v := (3 : Int32)) hC dX3_init_41 (by decide) <| ?_
  refine x_iast (N := 194) hC dX3_init_42 (by decide) (by decide +kernel) (by decide) ?_
  show xV G l mM_X3_init K 43 [(1, .int (17 : Int32)), (0, .ref (xad G 1))] [] q40
  refine x_iinc hC dX3_init_43 (j := 0) (v := (18 : Int32)) rfl (by decide) (by decide) rfl <| x_goto (tgt := 15) hC dX3_init_46 (by decide) <| x_iload_n hC dX3_init_15 rfl (j := 0) rfl <| x_bipush (v := (60 : Int32)) hC dX3_init_16 (by decide) <| ?_
  refine x_icmp_ge (tgt := 49) hC dX3_init_18 (by decide) (fun c => absurd c (by decide)) (fun _ => ?_)
  refine x_aload_n hC dX3_init_21 rfl (j := 1) rfl <| ?_
  refine x_getR (q := 2) (k := 0) (N := 1) hC dX3_init_22 wfl_X3_9 (by decide) (by decide) (by decide) (by decide +kernel) (by decide) (by decide +kernel) ?_
  refine x_bipush (v := (72 : Int32)) hC dX3_init_25 (by decide) <| x_iload_n hC dX3_init_27 rfl (j := 0) rfl <| x_iadd hC dX3_init_28 <| ?_
  show xV G l mM_X3_init K 29 [(1, .int (18 : Int32)), (0, .ref (xad G 1))] [.int (90 : Int32), .ref (xad G 2)] q40
  refine x_bipush (v := (8 : Int32)) hC dX3_init_29 (by decide) <| ?_
  refine x_iast (N := 194) hC dX3_init_31 (by decide) (by decide +kernel) (by decide) ?_
  show xV G l mM_X3_init K 32 [(1, .int (18 : Int32)), (0, .ref (xad G 1))] [] q41
  refine x_aload_n hC dX3_init_32 rfl (j := 1) rfl <| ?_
  refine x_getR (q := 2) (k := 0) (N := 1) hC dX3_init_33 wfl_X3_9 (by decide) (by decide) (by decide) (by decide +kernel) (by decide) (by decide +kernel) ?_
  refine x_sipush (v := (132 : Int32)) hC dX3_init_36 (by decide) <| x_iload_n hC dX3_init_39 rfl (j := 0) rfl <| x_iadd hC dX3_init_40 <| ?_
  show xV G l mM_X3_init K 41 [(1, .int (18 : Int32)), (0, .ref (xad G 1))] [.int (150 : Int32), .ref (xad G 2)] q41
  refine x_iconst (v := (3 : Int32)) hC dX3_init_41 (by decide) <| ?_
  refine x_iast (N := 194) hC dX3_init_42 (by decide) (by decide +kernel) (by decide) ?_
  show xV G l mM_X3_init K 43 [(1, .int (18 : Int32)), (0, .ref (xad G 1))] [] q42
  refine x_iinc hC dX3_init_43 (j := 0) (v := (19 : Int32)) rfl (by decide) (by decide) rfl <| x_goto (tgt := 15) hC dX3_init_46 (by decide) <| x_iload_n hC dX3_init_15 rfl (j := 0) rfl <| x_bipush (v := (60 : Int32)) hC dX3_init_16 (by decide) <| ?_
  refine x_icmp_ge (tgt := 49) hC dX3_init_18 (by decide) (fun c => absurd c (by decide)) (fun _ => ?_)
  refine x_aload_n hC dX3_init_21 rfl (j := 1) rfl <| ?_
  refine x_getR (q := 2) (k := 0) (N := 1) hC dX3_init_22 wfl_X3_9 (by decide) (by decide) (by decide) (by decide +kernel) (by decide) (by decide +kernel) ?_
  refine x_bipush (v := (72 : Int32)) hC dX3_init_25 (by decide) <| x_iload_n hC dX3_init_27 rfl (j := 0) rfl <| x_iadd hC dX3_init_28 <| ?_
  show xV G l mM_X3_init K 29 [(1, .int (19 : Int32)), (0, .ref (xad G 1))] [.int (91 : Int32), .ref (xad G 2)] q42
  refine x_bipush (v := (8 : Int32)) hC dX3_init_29 (by decide) <| ?_
  refine x_iast (N := 194) hC dX3_init_31 (by decide) (by decide +kernel) (by decide) ?_
  show xV G l mM_X3_init K 32 [(1, .int (19 : Int32)), (0, .ref (xad G 1))] [] q43
  refine x_aload_n hC dX3_init_32 rfl (j := 1) rfl <| ?_
  refine x_getR (q := 2) (k := 0) (N := 1) hC dX3_init_33 wfl_X3_9 (by decide) (by decide) (by decide) (by decide +kernel) (by decide) (by decide +kernel) ?_
  refine x_sipush (v := (132 : Int32)) hC dX3_init_36 (by decide) <| x_iload_n hC dX3_init_39 rfl (j := 0) rfl <| x_iadd hC dX3_init_40 <| ?_
  show xV G l mM_X3_init K 41 [(1, .int (19 : Int32)), (0, .ref (xad G 1))] [.int (151 : Int32), .ref (xad G 2)] q43
  refine x_iconst (v := (3 : Int32)) hC dX3_init_41 (by decide) <| ?_
  refine x_iast (N := 194) hC dX3_init_42 (by decide) (by decide +kernel) (by decide) ?_
  show xV G l mM_X3_init K 43 [(1, .int (19 : Int32)), (0, .ref (xad G 1))] [] q44
  refine x_iinc hC dX3_init_43 (j := 0) (v := (20 : Int32)) rfl (by decide) (by decide) rfl <| x_goto (tgt := 15) hC dX3_init_46 (by decide) <| x_iload_n hC dX3_init_15 rfl (j := 0) rfl <| x_bipush (v := (60 : Int32)) hC dX3_init_16 (by decide) <| ?_
  refine x_icmp_ge (tgt := 49) hC dX3_init_18 (by decide) (fun c => absurd c (by decide)) (fun _ => ?_)
  refine x_aload_n hC dX3_init_21 rfl (j := 1) rfl <| ?_
  refine x_getR (q := 2) (k := 0) (N := 1) hC dX3_init_22 wfl_X3_9 (by decide) (by decide) (by decide) (by decide +kernel) (by decide) (by decide +kernel) ?_
  refine x_bipush (v := (72 : Int32)) hC dX3_init_25 (by decide) <| x_iload_n hC dX3_init_27 rfl (j := 0) rfl <| x_iadd hC dX3_init_28 <| ?_
  show xV G l mM_X3_init K 29 [(1, .int (20 : Int32)), (0, .ref (xad G 1))] [.int (92 : Int32), .ref (xad G 2)] q44
  refine x_bipush (v := (8 : Int32)) hC dX3_init_29 (by decide) <| ?_
  refine x_iast (N := 194) hC dX3_init_31 (by decide) (by decide +kernel) (by decide) ?_
  show xV G l mM_X3_init K 32 [(1, .int (20 : Int32)), (0, .ref (xad G 1))] [] q45
  refine x_aload_n hC dX3_init_32 rfl (j := 1) rfl <| ?_
  refine x_getR (q := 2) (k := 0) (N := 1) hC dX3_init_33 wfl_X3_9 (by decide) (by decide) (by decide) (by decide +kernel) (by decide) (by decide +kernel) ?_
  refine x_sipush (v := (132 : Int32)) hC dX3_init_36 (by decide) <| x_iload_n hC dX3_init_39 rfl (j := 0) rfl <| x_iadd hC dX3_init_40 <| ?_
  show xV G l mM_X3_init K 41 [(1, .int (20 : Int32)), (0, .ref (xad G 1))] [.int (152 : Int32), .ref (xad G 2)] q45
  refine x_iconst (v := (3 : Int32)) hC dX3_init_41 (by decide) <| ?_
  refine x_iast (N := 194) hC dX3_init_42 (by decide) (by decide +kernel) (by decide) ?_
  show xV G l mM_X3_init K 43 [(1, .int (20 : Int32)), (0, .ref (xad G 1))] [] q46
  refine x_iinc hC dX3_init_43 (j := 0) (v := (21 : Int32)) rfl (by decide) (by decide) rfl <| x_goto (tgt := 15) hC dX3_init_46 (by decide) <| x_iload_n hC dX3_init_15 rfl (j := 0) rfl <| x_bipush (v := (60 : Int32)) hC dX3_init_16 (by decide) <| ?_
  refine x_icmp_ge (tgt := 49) hC dX3_init_18 (by decide) (fun c => absurd c (by decide)) (fun _ => ?_)
  refine x_aload_n hC dX3_init_21 rfl (j := 1) rfl <| ?_
  refine x_getR (q := 2) (k := 0) (N := 1) hC dX3_init_22 wfl_X3_9 (by decide) (by decide) (by decide) (by decide +kernel) (by decide) (by decide +kernel) ?_
  refine x_bipush (v := (72 : Int32)) hC dX3_init_25 (by decide) <| x_iload_n hC dX3_init_27 rfl (j := 0) rfl <| x_iadd hC dX3_init_28 <| ?_
  show xV G l mM_X3_init K 29 [(1, .int (21 : Int32)), (0, .ref (xad G 1))] [.int (93 : Int32), .ref (xad G 2)] q46
  refine x_bipush (v := (8 : Int32)) hC dX3_init_29 (by decide) <| ?_
  refine x_iast (N := 194) hC dX3_init_31 (by decide) (by decide +kernel) (by decide) ?_
  show xV G l mM_X3_init K 32 [(1, .int (21 : Int32)), (0, .ref (xad G 1))] [] q47
  refine x_aload_n hC dX3_init_32 rfl (j := 1) rfl <| ?_
  refine x_getR (q := 2) (k := 0) (N := 1) hC dX3_init_33 wfl_X3_9 (by decide) (by decide) (by decide) (by decide +kernel) (by decide) (by decide +kernel) ?_
  refine x_sipush (v := (132 : Int32)) hC dX3_init_36 (by decide) <| x_iload_n hC dX3_init_39 rfl (j := 0) rfl <| x_iadd hC dX3_init_40 <| ?_
  show xV G l mM_X3_init K 41 [(1, .int (21 : Int32)), (0, .ref (xad G 1))] [.int (153 : Int32), .ref (xad G 2)] q47
  refine x_iconst (v := (3 : Int32)) hC dX3_init_41 (by decide) <| ?_
  refine x_iast (N := 194) hC dX3_init_42 (by decide) (by decide +kernel) (by decide) ?_
  show xV G l mM_X3_init K 43 [(1, .int (21 : Int32)), (0, .ref (xad G 1))] [] q48
  refine x_iinc hC dX3_init_43 (j := 0) (v := (22 : Int32)) rfl (by decide) (by decide) rfl <| x_goto (tgt := 15) hC dX3_init_46 (by decide) <| x_iload_n hC dX3_init_15 rfl (j := 0) rfl <| x_bipush (v := (60 : Int32)) hC dX3_init_16 (by decide) <| ?_
  refine x_icmp_ge (tgt := 49) hC dX3_init_18 (by decide) (fun c => absurd c (by decide)) (fun _ => ?_)
  refine x_aload_n hC dX3_init_21 rfl (j := 1) rfl <| ?_
  refine x_getR (q := 2) (k := 0) (N := 1) hC dX3_init_22 wfl_X3_9 (by decide) (by decide) (by decide) (by decide +kernel) (by decide) (by decide +kernel) ?_
  refine x_bipush (v := (72 : Int32)) hC dX3_init_25 (by decide) <| x_iload_n hC dX3_init_27 rfl (j := 0) rfl <| x_iadd hC dX3_init_28 <| ?_
  show xV G l mM_X3_init K 29 [(1, .int (22 : Int32)), (0, .ref (xad G 1))] [.int (94 : Int32), .ref (xad G 2)] q48
  refine x_bipush (v := (8 : Int32)) hC dX3_init_29 (by decide) <| ?_
  refine x_iast (N := 194) hC dX3_init_31 (by decide) (by decide +kernel) (by decide) ?_
  show xV G l mM_X3_init K 32 [(1, .int (22 : Int32)), (0, .ref (xad G 1))] [] q49
  refine x_aload_n hC dX3_init_32 rfl (j := 1) rfl <| ?_
  refine x_getR (q := 2) (k := 0) (N := 1) hC dX3_init_33 wfl_X3_9 (by decide) (by decide) (by decide) (by decide +kernel) (by decide) (by decide +kernel) ?_
  refine x_sipush (v := (132 : Int32)) hC dX3_init_36 (by decide) <| x_iload_n hC dX3_init_39 rfl (j := 0) rfl <| x_iadd hC dX3_init_40 <| ?_
  show xV G l mM_X3_init K 41 [(1, .int (22 : Int32)), (0, .ref (xad G 1))] [.int (154 : Int32), .ref (xad G 2)] q49
  refine x_iconst (v := (3 : Int32)) hC dX3_init_41 (by decide) <| ?_
  refine x_iast (N := 194) hC dX3_init_42 (by decide) (by decide +kernel) (by decide) ?_
  show xV G l mM_X3_init K 43 [(1, .int (22 : Int32)), (0, .ref (xad G 1))] [] q50
  refine x_iinc hC dX3_init_43 (j := 0) (v := (23 : Int32)) rfl (by decide) (by decide) rfl <| x_goto (tgt := 15) hC dX3_init_46 (by decide) <| x_iload_n hC dX3_init_15 rfl (j := 0) rfl <| x_bipush (v := (60 : Int32)) hC dX3_init_16 (by decide) <| ?_
  refine x_icmp_ge (tgt := 49) hC dX3_init_18 (by decide) (fun c => absurd c (by decide)) (fun _ => ?_)
  refine x_aload_n hC dX3_init_21 rfl (j := 1) rfl <| ?_
  refine x_getR (q := 2) (k := 0) (N := 1) hC dX3_init_22 wfl_X3_9 (by decide) (by decide) (by decide) (by decide +kernel) (by decide) (by decide +kernel) ?_
  refine x_bipush (v := (72 : Int32)) hC dX3_init_25 (by decide) <| x_iload_n hC dX3_init_27 rfl (j := 0) rfl <| x_iadd hC dX3_init_28 <| ?_
  show xV G l mM_X3_init K 29 [(1, .int (23 : Int32)), (0, .ref (xad G 1))] [.int (95 : Int32), .ref (xad G 2)] q50
  refine x_bipush (v := (8 : Int32)) hC dX3_init_29 (by decide) <| ?_
  refine x_iast (N := 194) hC dX3_init_31 (by decide) (by decide +kernel) (by decide) ?_
  show xV G l mM_X3_init K 32 [(1, .int (23 : Int32)), (0, .ref (xad G 1))] [] q51
  refine x_aload_n hC dX3_init_32 rfl (j := 1) rfl <| ?_
  refine x_getR (q := 2) (k := 0) (N := 1) hC dX3_init_33 wfl_X3_9 (by decide) (by decide) (by decide) (by decide +kernel) (by decide) (by decide +kernel) ?_
  refine x_sipush (v := (132 : Int32)) hC dX3_init_36 (by decide) <| x_iload_n hC dX3_init_39 rfl (j := 0) rfl <| x_iadd hC dX3_init_40 <| ?_
  show xV G l mM_X3_init K 41 [(1, .int (23 : Int32)), (0, .ref (xad G 1))] [.int (155 : Int32), .ref (xad G 2)] q51
  refine x_iconst (v := (3 : Int32)) hC dX3_init_41 (by decide) <| ?_
  refine x_iast (N := 194) hC dX3_init_42 (by decide) (by decide +kernel) (by decide) ?_
  show xV G l mM_X3_init K 43 [(1, .int (23 : Int32)), (0, .ref (xad G 1))] [] q52
  refine x_iinc hC dX3_init_43 (j := 0) (v := (24 : Int32)) rfl (by decide) (by decide) rfl <| x_goto (tgt := 15) hC dX3_init_46 (by decide) <| x_iload_n hC dX3_init_15 rfl (j := 0) rfl <| x_bipush (v := (60 : Int32)) hC dX3_init_16 (by decide) <| ?_
  refine x_icmp_ge (tgt := 49) hC dX3_init_18 (by decide) (fun c => absurd c (by decide)) (fun _ => ?_)
  refine x_aload_n hC dX3_init_21 rfl (j := 1) rfl <| ?_
  refine x_getR (q := 2) (k := 0) (N := 1) hC dX3_init_22 wfl_X3_9 (by decide) (by decide) (by decide) (by decide +kernel) (by decide) (by decide +kernel) ?_
  refine x_bipush (v := (72 : Int32)) hC dX3_init_25 (by decide) <| x_iload_n hC dX3_init_27 rfl (j := 0) rfl <| x_iadd hC dX3_init_28 <| ?_
  show xV G l mM_X3_init K 29 [(1, .int (24 : Int32)), (0, .ref (xad G 1))] [.int (96 : Int32), .ref (xad G 2)] q52
  refine x_bipush (v := (8 : Int32)) hC dX3_init_29 (by decide) <| ?_
  refine x_iast (N := 194) hC dX3_init_31 (by decide) (by decide +kernel) (by decide) ?_
  show xV G l mM_X3_init K 32 [(1, .int (24 : Int32)), (0, .ref (xad G 1))] [] q53
  refine x_aload_n hC dX3_init_32 rfl (j := 1) rfl <| ?_
  refine x_getR (q := 2) (k := 0) (N := 1) hC dX3_init_33 wfl_X3_9 (by decide) (by decide) (by decide) (by decide +kernel) (by decide) (by decide +kernel) ?_
  refine x_sipush (v := (132 : Int32)) hC dX3_init_36 (by decide) <| x_iload_n hC dX3_init_39 rfl (j := 0) rfl <| x_iadd hC dX3_init_40 <| ?_
  show xV G l mM_X3_init K 41 [(1, .int (24 : Int32)), (0, .ref (xad G 1))] [.int (156 : Int32), .ref (xad G 2)] q53
  refine x_iconst (v := (3 : Int32)) hC dX3_init_41 (by decide) <| ?_
  refine x_iast (N := 194) hC dX3_init_42 (by decide) (by decide +kernel) (by decide) ?_
  show xV G l mM_X3_init K 43 [(1, .int (24 : Int32)), (0, .ref (xad G 1))] [] q54
  refine x_iinc hC dX3_init_43 (j := 0) (v := (25 : Int32)) rfl (by decide) (by decide) rfl <| x_goto (tgt := 15) hC dX3_init_46 (by decide) <| x_iload_n hC dX3_init_15 rfl (j := 0) rfl <| x_bipush (v := (60 : Int32)) hC dX3_init_16 (by decide) <| ?_
  refine x_icmp_ge (tgt := 49) hC dX3_init_18 (by decide) (fun c => absurd c (by decide)) (fun _ => ?_)
  refine x_aload_n hC dX3_init_21 rfl (j := 1) rfl <| ?_
  refine x_getR (q := 2) (k := 0) (N := 1) hC dX3_init_22 wfl_X3_9 (by decide) (by decide) (by decide) (by decide +kernel) (by decide) (by decide +kernel) ?_
  refine x_bipush (v := (72 : Int32)) hC dX3_init_25 (by decide) <| x_iload_n hC dX3_init_27 rfl (j := 0) rfl <| x_iadd hC dX3_init_28 <| ?_
  show xV G l mM_X3_init K 29 [(1, .int (25 : Int32)), (0, .ref (xad G 1))] [.int (97 : Int32), .ref (xad G 2)] q54
  refine x_bipush (v := (8 : Int32)) hC dX3_init_29 (by decide) <| ?_
  refine x_iast (N := 194) hC dX3_init_31 (by decide) (by decide +kernel) (by decide) ?_
  show xV G l mM_X3_init K 32 [(1, .int (25 : Int32)), (0, .ref (xad G 1))] [] q55
  refine x_aload_n hC dX3_init_32 rfl (j := 1) rfl <| ?_
  refine x_getR (q := 2) (k := 0) (N := 1) hC dX3_init_33 wfl_X3_9 (by decide) (by decide) (by decide) (by decide +kernel) (by decide) (by decide +kernel) ?_
  refine x_sipush (v := (132 : Int32)) hC dX3_init_36 (by decide) <| x_iload_n hC dX3_init_39 rfl (j := 0) rfl <| x_iadd hC dX3_init_40 <| ?_
  show xV G l mM_X3_init K 41 [(1, .int (25 : Int32)), (0, .ref (xad G 1))] [.int (157 : Int32), .ref (xad G 2)] q55
  refine x_iconst (v := (3 : Int32)) hC dX3_init_41 (by decide) <| ?_
  refine x_iast (N := 194) hC dX3_init_42 (by decide) (by decide +kernel) (by decide) ?_
  show xV G l mM_X3_init K 43 [(1, .int (25 : Int32)), (0, .ref (xad G 1))] [] q56
  refine x_iinc hC dX3_init_43 (j := 0) (v := (26 : Int32)) rfl (by decide) (by decide) rfl <| x_goto (tgt := 15) hC dX3_init_46 (by decide) <| x_iload_n hC dX3_init_15 rfl (j := 0) rfl <| x_bipush (v := (60 : Int32)) hC dX3_init_16 (by decide) <| ?_
  refine x_icmp_ge (tgt := 49) hC dX3_init_18 (by decide) (fun c => absurd c (by decide)) (fun _ => ?_)
  refine x_aload_n hC dX3_init_21 rfl (j := 1) rfl <| ?_
  refine x_getR (q := 2) (k := 0) (N := 1) hC dX3_init_22 wfl_X3_9 (by decide) (by decide) (by decide) (by decide +kernel) (by decide) (by decide +kernel) ?_
  refine x_bipush (v := (72 : Int32)) hC dX3_init_25 (by decide) <| x_iload_n hC dX3_init_27 rfl (j := 0) rfl <| x_iadd hC dX3_init_28 <| ?_
  show xV G l mM_X3_init K 29 [(1, .int (26 : Int32)), (0, .ref (xad G 1))] [.int (98 : Int32), .ref (xad G 2)] q56
  refine x_bipush (v := (8 : Int32)) hC dX3_init_29 (by decide) <| ?_
  refine x_iast (N := 194) hC dX3_init_31 (by decide) (by decide +kernel) (by decide) ?_
  show xV G l mM_X3_init K 32 [(1, .int (26 : Int32)), (0, .ref (xad G 1))] [] q57
  refine x_aload_n hC dX3_init_32 rfl (j := 1) rfl <| ?_
  refine x_getR (q := 2) (k := 0) (N := 1) hC dX3_init_33 wfl_X3_9 (by decide) (by decide) (by decide) (by decide +kernel) (by decide) (by decide +kernel) ?_
  refine x_sipush (v := (132 : Int32)) hC dX3_init_36 (by decide) <| x_iload_n hC dX3_init_39 rfl (j := 0) rfl <| x_iadd hC dX3_init_40 <| ?_
  show xV G l mM_X3_init K 41 [(1, .int (26 : Int32)), (0, .ref (xad G 1))] [.int (158 : Int32), .ref (xad G 2)] q57
  refine x_iconst (v := (3 : Int32)) hC dX3_init_41 (by decide) <| ?_
  refine x_iast (N := 194) hC dX3_init_42 (by decide) (by decide +kernel) (by decide) ?_
  show xV G l mM_X3_init K 43 [(1, .int (26 : Int32)), (0, .ref (xad G 1))] [] q58
  refine x_iinc hC dX3_init_43 (j := 0) (v := (27 : Int32)) rfl (by decide) (by decide) rfl <| x_goto (tgt := 15) hC dX3_init_46 (by decide) <| x_iload_n hC dX3_init_15 rfl (j := 0) rfl <| x_bipush (v := (60 : Int32)) hC dX3_init_16 (by decide) <| ?_
  refine x_icmp_ge (tgt := 49) hC dX3_init_18 (by decide) (fun c => absurd c (by decide)) (fun _ => ?_)
  refine x_aload_n hC dX3_init_21 rfl (j := 1) rfl <| ?_
  refine x_getR (q := 2) (k := 0) (N := 1) hC dX3_init_22 wfl_X3_9 (by decide) (by decide) (by decide) (by decide +kernel) (by decide) (by decide +kernel) ?_
  refine x_bipush (v := (72 : Int32)) hC dX3_init_25 (by decide) <| x_iload_n hC dX3_init_27 rfl (j := 0) rfl <| x_iadd hC dX3_init_28 <| ?_
  show xV G l mM_X3_init K 29 [(1, .int (27 : Int32)), (0, .ref (xad G 1))] [.int (99 : Int32), .ref (xad G 2)] q58
  refine x_bipush (v := (8 : Int32)) hC dX3_init_29 (by decide) <| ?_
  refine x_iast (N := 194) hC dX3_init_31 (by decide) (by decide +kernel) (by decide) ?_
  show xV G l mM_X3_init K 32 [(1, .int (27 : Int32)), (0, .ref (xad G 1))] [] q59
  refine x_aload_n hC dX3_init_32 rfl (j := 1) rfl <| ?_
  refine x_getR (q := 2) (k := 0) (N := 1) hC dX3_init_33 wfl_X3_9 (by decide) (by decide) (by decide) (by decide +kernel) (by decide) (by decide +kernel) ?_
  refine x_sipush (v := (132 : Int32)) hC dX3_init_36 (by decide) <| x_iload_n hC dX3_init_39 rfl (j := 0) rfl <| x_iadd hC dX3_init_40 <| ?_
  show xV G l mM_X3_init K 41 [(1, .int (27 : Int32)), (0, .ref (xad G 1))] [.int (159 : Int32), .ref (xad G 2)] q59
  refine x_iconst (v := (3 : Int32)) hC dX3_init_41 (by decide) <| ?_
  refine x_iast (N := 194) hC dX3_init_42 (by decide) (by decide +kernel) (by decide) ?_
  show xV G l mM_X3_init K 43 [(1, .int (27 : Int32)), (0, .ref (xad G 1))] [] q60
  refine x_iinc hC dX3_init_43 (j := 0) (v := (28 : Int32)) rfl (by decide) (by decide) rfl <| x_goto (tgt := 15) hC dX3_init_46 (by decide) <| x_iload_n hC dX3_init_15 rfl (j := 0) rfl <| x_bipush (v := (60 : Int32)) hC dX3_init_16 (by decide) <| ?_
  refine x_icmp_ge (tgt := 49) hC dX3_init_18 (by decide) (fun c => absurd c (by decide)) (fun _ => ?_)
  refine x_aload_n hC dX3_init_21 rfl (j := 1) rfl <| ?_
  refine x_getR (q := 2) (k := 0) (N := 1) hC dX3_init_22 wfl_X3_9 (by decide) (by decide) (by decide) (by decide +kernel) (by decide) (by decide +kernel) ?_
  refine x_bipush (v := (72 : Int32)) hC dX3_init_25 (by decide) <| x_iload_n hC dX3_init_27 rfl (j := 0) rfl <| x_iadd hC dX3_init_28 <| ?_
  show xV G l mM_X3_init K 29 [(1, .int (28 : Int32)), (0, .ref (xad G 1))] [.int (100 : Int32), .ref (xad G 2)] q60
  refine x_bipush (v := (8 : Int32)) hC dX3_init_29 (by decide) <| ?_
  refine x_iast (N := 194) hC dX3_init_31 (by decide) (by decide +kernel) (by decide) ?_
  show xV G l mM_X3_init K 32 [(1, .int (28 : Int32)), (0, .ref (xad G 1))] [] q61
  refine x_aload_n hC dX3_init_32 rfl (j := 1) rfl <| ?_
  refine x_getR (q := 2) (k := 0) (N := 1) hC dX3_init_33 wfl_X3_9 (by decide) (by decide) (by decide) (by decide +kernel) (by decide) (by decide +kernel) ?_
  refine x_sipush (v := (132 : Int32)) hC dX3_init_36 (by decide) <| x_iload_n hC dX3_init_39 rfl (j := 0) rfl <| x_iadd hC dX3_init_40 <| ?_
  show xV G l mM_X3_init K 41 [(1, .int (28 : Int32)), (0, .ref (xad G 1))] [.int (160 : Int32), .ref (xad G 2)] q61
  refine x_iconst (v := (3 : Int32)) hC dX3_init_41 (by decide) <| ?_
  refine x_iast (N := 194) hC dX3_init_42 (by decide) (by decide +kernel) (by decide) ?_
  show xV G l mM_X3_init K 43 [(1, .int (28 : Int32)), (0, .ref (xad G 1))] [] q62
  refine x_iinc hC dX3_init_43 (j := 0) (v := (29 : Int32)) rfl (by decide) (by decide) rfl <| x_goto (tgt := 15) hC dX3_init_46 (by decide) <| x_iload_n hC dX3_init_15 rfl (j := 0) rfl <| x_bipush (v := (60 : Int32)) hC dX3_init_16 (by decide) <| ?_
  refine x_icmp_ge (tgt := 49) hC dX3_init_18 (by decide) (fun c => absurd c (by decide)) (fun _ => ?_)
  refine x_aload_n hC dX3_init_21 rfl (j := 1) rfl <| ?_
  refine x_getR (q := 2) (k := 0) (N := 1) hC dX3_init_22 wfl_X3_9 (by decide) (by decide) (by decide) (by decide +kernel) (by decide) (by decide +kernel) ?_
  refine x_bipush (v := (72 : Int32)) hC dX3_init_25 (by decide) <| x_iload_n hC dX3_init_27 rfl (j := 0) rfl <| x_iadd hC dX3_init_28 <| ?_
  show xV G l mM_X3_init K 29 [(1, .int (29 : Int32)), (0, .ref (xad G 1))] [.int (101 : Int32), .ref (xad G 2)] q62
  refine x_bipush (v := (8 : Int32)) hC dX3_init_29 (by decide) <| ?_
  refine x_iast (N := 194) hC dX3_init_31 (by decide) (by decide +kernel) (by decide) ?_
  show xV G l mM_X3_init K 32 [(1, .int (29 : Int32)), (0, .ref (xad G 1))] [] q63
  refine x_aload_n hC dX3_init_32 rfl (j := 1) rfl <| ?_
  refine x_getR (q := 2) (k := 0) (N := 1) hC dX3_init_33 wfl_X3_9 (by decide) (by decide) (by decide) (by decide +kernel) (by decide) (by decide +kernel) ?_
  refine x_sipush (v := (132 : Int32)) hC dX3_init_36 (by decide) <| x_iload_n hC dX3_init_39 rfl (j := 0) rfl <| x_iadd hC dX3_init_40 <| ?_
  show xV G l mM_X3_init K 41 [(1, .int (29 : Int32)), (0, .ref (xad G 1))] [.int (161 : Int32), .ref (xad G 2)] q63
  refine x_iconst (v := (3 : Int32)) hC dX3_init_41 (by decide) <| ?_
  refine x_iast (N := 194) hC dX3_init_42 (by decide) (by decide +kernel) (by decide) ?_
  show xV G l mM_X3_init K 43 [(1, .int (29 : Int32)), (0, .ref (xad G 1))] [] q64
  refine x_iinc hC dX3_init_43 (j := 0) (v := (30 : Int32)) rfl (by decide) (by decide) rfl <| x_goto (tgt := 15) hC dX3_init_46 (by decide) <| x_iload_n hC dX3_init_15 rfl (j := 0) rfl <| x_bipush (v := (60 : Int32)) hC dX3_init_16 (by decide) <| ?_
  refine x_icmp_ge (tgt := 49) hC dX3_init_18 (by decide) (fun c => absurd c (by decide)) (fun _ => ?_)
  refine x_aload_n hC dX3_init_21 rfl (j := 1) rfl <| ?_
  refine x_getR (q := 2) (k := 0) (N := 1) hC dX3_init_22 wfl_X3_9 (by decide) (by decide) (by decide) (by decide +kernel) (by decide) (by decide +kernel) ?_
  refine x_bipush (v := (72 : Int32)) hC dX3_init_25 (by decide) <| x_iload_n hC dX3_init_27 rfl (j := 0) rfl <| x_iadd hC dX3_init_28 <| ?_
  show xV G l mM_X3_init K 29 [(1, .int (30 : Int32)), (0, .ref (xad G 1))] [.int (102 : Int32), .ref (xad G 2)] q64
  refine x_bipush (v := (8 : Int32)) hC dX3_init_29 (by decide) <| ?_
  refine x_iast (N := 194) hC dX3_init_31 (by decide) (by decide +kernel) (by decide) ?_
  show xV G l mM_X3_init K 32 [(1, .int (30 : Int32)), (0, .ref (xad G 1))] [] q65
  refine x_aload_n hC dX3_init_32 rfl (j := 1) rfl <| ?_
  refine x_getR (q := 2) (k := 0) (N := 1) hC dX3_init_33 wfl_X3_9 (by decide) (by decide) (by decide) (by decide +kernel) (by decide) (by decide +kernel) ?_
  refine x_sipush (v := (132 : Int32)) hC dX3_init_36 (by decide) <| x_iload_n hC dX3_init_39 rfl (j := 0) rfl <| x_iadd hC dX3_init_40 <| ?_
  show xV G l mM_X3_init K 41 [(1, .int (30 : Int32)), (0, .ref (xad G 1))] [.int (162 : Int32), .ref (xad G 2)] q65
  refine x_iconst (v := (3 : Int32)) hC dX3_init_41 (by decide) <| ?_
  refine x_iast (N := 194) hC dX3_init_42 (by decide) (by decide +kernel) (by decide) ?_
  show xV G l mM_X3_init K 43 [(1, .int (30 : Int32)), (0, .ref (xad G 1))] [] q66
  refine x_iinc hC dX3_init_43 (j := 0) (v := (31 : Int32)) rfl (by decide) (by decide) rfl <| x_goto (tgt := 15) hC dX3_init_46 (by decide) <| x_iload_n hC dX3_init_15 rfl (j := 0) rfl <| x_bipush (v := (60 : Int32)) hC dX3_init_16 (by decide) <| ?_
  refine x_icmp_ge (tgt := 49) hC dX3_init_18 (by decide) (fun c => absurd c (by decide)) (fun _ => ?_)
  refine x_aload_n hC dX3_init_21 rfl (j := 1) rfl <| ?_
  refine x_getR (q := 2) (k := 0) (N := 1) hC dX3_init_22 wfl_X3_9 (by decide) (by decide) (by decide) (by decide +kernel) (by decide) (by decide +kernel) ?_
  refine x_bipush (v := (72 : Int32)) hC dX3_init_25 (by decide) <| x_iload_n hC dX3_init_27 rfl (j := 0) rfl <| x_iadd hC dX3_init_28 <| ?_
  show xV G l mM_X3_init K 29 [(1, .int (31 : Int32)), (0, .ref (xad G 1))] [.int (103 : Int32), .ref (xad G 2)] q66
  refine x_bipush (v := (8 : Int32)) hC dX3_init_29 (by decide) <| ?_
  refine x_iast (N := 194) hC dX3_init_31 (by decide) (by decide +kernel) (by decide) ?_
  show xV G l mM_X3_init K 32 [(1, .int (31 : Int32)), (0, .ref (xad G 1))] [] q67
  refine x_aload_n hC dX3_init_32 rfl (j := 1) rfl <| ?_
  refine x_getR (q := 2) (k := 0) (N := 1) hC dX3_init_33 wfl_X3_9 (by decide) (by decide) (by decide) (by decide +kernel) (by decide) (by decide +kernel) ?_
  refine x_sipush (v := (132 : Int32)) hC dX3_init_36 (by decide) <| x_iload_n hC dX3_init_39 rfl (j := 0) rfl <| x_iadd hC dX3_init_40 <| ?_
  show xV G l mM_X3_init K 41 [(1, .int (31 : Int32)), (0, .ref (xad G 1))] [.int (163 : Int32), .ref (xad G 2)] q67
  refine x_iconst (v := (3 : Int32)) hC dX3_init_41 (by decide) <| ?_
  refine x_iast (N := 194) hC dX3_init_42 (by decide) (by decide +kernel) (by decide) ?_
  show xV G l mM_X3_init K 43 [(1, .int (31 : Int32)), (0, .ref (xad G 1))] [] q68
  refine x_iinc hC dX3_init_43 (j := 0) (v := (32 : Int32)) rfl (by decide) (by decide) rfl <| x_goto (tgt := 15) hC dX3_init_46 (by decide) <| x_iload_n hC dX3_init_15 rfl (j := 0) rfl <| x_bipush (v := (60 : Int32)) hC dX3_init_16 (by decide) <| ?_
  refine x_icmp_ge (tgt := 49) hC dX3_init_18 (by decide) (fun c => absurd c (by decide)) (fun _ => ?_)
  refine x_aload_n hC dX3_init_21 rfl (j := 1) rfl <| ?_
  refine x_getR (q := 2) (k := 0) (N := 1) hC dX3_init_22 wfl_X3_9 (by decide) (by decide) (by decide) (by decide +kernel) (by decide) (by decide +kernel) ?_
  refine x_bipush (v := (72 : Int32)) hC dX3_init_25 (by decide) <| x_iload_n hC dX3_init_27 rfl (j := 0) rfl <| x_iadd hC dX3_init_28 <| ?_
  show xV G l mM_X3_init K 29 [(1, .int (32 : Int32)), (0, .ref (xad G 1))] [.int (104 : Int32), .ref (xad G 2)] q68
  refine x_bipush (v := (8 : Int32)) hC dX3_init_29 (by decide) <| ?_
  refine x_iast (N := 194) hC dX3_init_31 (by decide) (by decide +kernel) (by decide) ?_
  show xV G l mM_X3_init K 32 [(1, .int (32 : Int32)), (0, .ref (xad G 1))] [] q69
  refine x_aload_n hC dX3_init_32 rfl (j := 1) rfl <| ?_
  refine x_getR (q := 2) (k := 0) (N := 1) hC dX3_init_33 wfl_X3_9 (by decide) (by decide) (by decide) (by decide +kernel) (by decide) (by decide +kernel) ?_
  refine x_sipush (v := (132 : Int32)) hC dX3_init_36 (by decide) <| x_iload_n hC dX3_init_39 rfl (j := 0) rfl <| x_iadd hC dX3_init_40 <| ?_
  show xV G l mM_X3_init K 41 [(1, .int (32 : Int32)), (0, .ref (xad G 1))] [.int (164 : Int32), .ref (xad G 2)] q69
  refine x_iconst (v := (3 : Int32)) hC dX3_init_41 (by decide) <| ?_
  refine x_iast (N := 194) hC dX3_init_42 (by decide) (by decide +kernel) (by decide) ?_
  show xV G l mM_X3_init K 43 [(1, .int (32 : Int32)), (0, .ref (xad G 1))] [] q70
  refine x_iinc hC dX3_init_43 (j := 0) (v := (33 : Int32)) rfl (by decide) (by decide) rfl <| x_goto (tgt := 15) hC dX3_init_46 (by decide) <| x_iload_n hC dX3_init_15 rfl (j := 0) rfl <| x_bipush (v := (60 : Int32)) hC dX3_init_16 (by decide) <| ?_
  refine x_icmp_ge (tgt := 49) hC dX3_init_18 (by decide) (fun c => absurd c (by decide)) (fun _ => ?_)
  refine x_aload_n hC dX3_init_21 rfl (j := 1) rfl <| ?_
  refine x_getR (q := 2) (k := 0) (N := 1) hC dX3_init_22 wfl_X3_9 (by decide) (by decide) (by decide) (by decide +kernel) (by decide) (by decide +kernel) ?_
  refine x_bipush (v := (72 : Int32)) hC dX3_init_25 (by decide) <| x_iload_n hC dX3_init_27 rfl (j := 0) rfl <| x_iadd hC dX3_init_28 <| ?_
  show xV G l mM_X3_init K 29 [(1, .int (33 : Int32)), (0, .ref (xad G 1))] [.int (105 : Int32), .ref (xad G 2)] q70
  refine x_bipush (v := (8 : Int32)) hC dX3_init_29 (by decide) <| ?_
  refine x_iast (N := 194) hC dX3_init_31 (by decide) (by decide +kernel) (by decide) ?_
  show xV G l mM_X3_init K 32 [(1, .int (33 : Int32)), (0, .ref (xad G 1))] [] q71
  refine x_aload_n hC dX3_init_32 rfl (j := 1) rfl <| ?_
  refine x_getR (q := 2) (k := 0) (N := 1) hC dX3_init_33 wfl_X3_9 (by decide) (by decide) (by decide) (by decide +kernel) (by decide) (by decide +kernel) ?_
  refine x_sipush (v := (132 : Int32)) hC dX3_init_36 (by decide) <| x_iload_n hC dX3_init_39 rfl (j := 0) rfl <| x_iadd hC dX3_init_40 <| ?_
  show xV G l mM_X3_init K 41 [(1, .int (33 : Int32)), (0, .ref (xad G 1))] [.int (165 : Int32), .ref (xad G 2)] q71
  refine x_iconst (v := (3 : Int32)) hC dX3_init_41 (by decide) <| ?_
  refine x_iast (N := 194) hC dX3_init_42 (by decide) (by decide +kernel) (by decide) ?_
  show xV G l mM_X3_init K 43 [(1, .int (33 : Int32)), (0, .ref (xad G 1))] [] q72
  refine x_iinc hC dX3_init_43 (j := 0) (v := (34 : Int32)) rfl (by decide) (by decide) rfl <| x_goto (tgt := 15) hC dX3_init_46 (by decide) <| x_iload_n hC dX3_init_15 rfl (j := 0) rfl <| x_bipush (v := (60 : Int32)) hC dX3_init_16 (by decide) <| ?_
  refine x_icmp_ge (tgt := 49) hC dX3_init_18 (by decide) (fun c => absurd c (by decide)) (fun _ => ?_)
  refine x_aload_n hC dX3_init_21 rfl (j := 1) rfl <| ?_
  refine x_getR (q := 2) (k := 0) (N := 1) hC dX3_init_22 wfl_X3_9 (by decide) (by decide) (by decide) (by decide +kernel) (by decide) (by decide +kernel) ?_
  refine x_bipush (v := (72 : Int32)) hC dX3_init_25 (by decide) <| x_iload_n hC dX3_init_27 rfl (j := 0) rfl <| x_iadd hC dX3_init_28 <| ?_
  show xV G l mM_X3_init K 29 [(1, .int (34 : Int32)), (0, .ref (xad G 1))] [.int (106 : Int32), .ref (xad G 2)] q72
  refine x_bipush (v := (8 : Int32)) hC dX3_init_29 (by decide) <| ?_
  refine x_iast (N := 194) hC dX3_init_31 (by decide) (by decide +kernel) (by decide) ?_
  show xV G l mM_X3_init K 32 [(1, .int (34 : Int32)), (0, .ref (xad G 1))] [] q73
  refine x_aload_n hC dX3_init_32 rfl (j := 1) rfl <| ?_
  refine x_getR (q := 2) (k := 0) (N := 1) hC dX3_init_33 wfl_X3_9 (by decide) (by decide) (by decide) (by decide +kernel) (by decide) (by decide +kernel) ?_
  refine x_sipush (v := (132 : Int32)) hC dX3_init_36 (by decide) <| x_iload_n hC dX3_init_39 rfl (j := 0) rfl <| x_iadd hC dX3_init_40 <| ?_
  show xV G l mM_X3_init K 41 [(1, .int (34 : Int32)), (0, .ref (xad G 1))] [.int (166 : Int32), .ref (xad G 2)] q73
  refine x_iconst (v := (3 : Int32)) hC dX3_init_41 (by decide) <| ?_
  refine x_iast (N := 194) hC dX3_init_42 (by decide) (by decide +kernel) (by decide) ?_
  show xV G l mM_X3_init K 43 [(1, .int (34 : Int32)), (0, .ref (xad G 1))] [] q74
  refine x_iinc hC dX3_init_43 (j := 0) (v := (35 : Int32)) rfl (by decide) (by decide) rfl <| x_goto (tgt := 15) hC dX3_init_46 (by decide) <| x_iload_n hC dX3_init_15 rfl (j := 0) rfl <| x_bipush (v := (60 : Int32)) hC dX3_init_16 (by decide) <| ?_
  refine x_icmp_ge (tgt := 49) hC dX3_init_18 (by decide) (fun c => absurd c (by decide)) (fun _ => ?_)
  refine x_aload_n hC dX3_init_21 rfl (j := 1) rfl <| ?_
  refine x_getR (q := 2) (k := 0) (N := 1) hC dX3_init_22 wfl_X3_9 (by decide) (by decide) (by decide) (by decide +kernel) (by decide) (by decide +kernel) ?_
  refine x_bipush (v := (72 : Int32)) hC dX3_init_25 (by decide) <| x_iload_n hC dX3_init_27 rfl (j := 0) rfl <| x_iadd hC dX3_init_28 <| ?_
  show xV G l mM_X3_init K 29 [(1, .int (35 : Int32)), (0, .ref (xad G 1))] [.int (107 : Int32), .ref (xad G 2)] q74
  refine x_bipush (v := (8 : Int32)) hC dX3_init_29 (by decide) <| ?_
  refine x_iast (N := 194) hC dX3_init_31 (by decide) (by decide +kernel) (by decide) ?_
  show xV G l mM_X3_init K 32 [(1, .int (35 : Int32)), (0, .ref (xad G 1))] [] q75
  refine x_aload_n hC dX3_init_32 rfl (j := 1) rfl <| ?_
  refine x_getR (q := 2) (k := 0) (N := 1) hC dX3_init_33 wfl_X3_9 (by decide) (by decide) (by decide) (by decide +kernel) (by decide) (by decide +kernel) ?_
  refine x_sipush (v := (132 : Int32)) hC dX3_init_36 (by decide) <| x_iload_n hC dX3_init_39 rfl (j := 0) rfl <| x_iadd hC dX3_init_40 <| ?_
  show xV G l mM_X3_init K 41 [(1, .int (35 : Int32)), (0, .ref (xad G 1))] [.int (167 : Int32), .ref (xad G 2)] q75
  refine x_iconst (v := (3 : Int32)) hC dX3_init_41 (by decide) <| ?_
  refine x_iast (N := 194) hC dX3_init_42 (by decide) (by decide +kernel) (by decide) ?_
  show xV G l mM_X3_init K 43 [(1, .int (35 : Int32)), (0, .ref (xad G 1))] [] q76
  refine x_iinc hC dX3_init_43 (j := 0) (v := (36 : Int32)) rfl (by decide) (by decide) rfl <| x_goto (tgt := 15) hC dX3_init_46 (by decide) <| x_iload_n hC dX3_init_15 rfl (j := 0) rfl <| x_bipush (v := (60 : Int32)) hC dX3_init_16 (by decide) <| ?_
  refine x_icmp_ge (tgt := 49) hC dX3_init_18 (by decide) (fun c => absurd c (by decide)) (fun _ => ?_)
  refine x_aload_n hC dX3_init_21 rfl (j := 1) rfl <| ?_
  refine x_getR (q := 2) (k := 0) (N := 1) hC dX3_init_22 wfl_X3_9 (by decide) (by decide) (by decide) (by decide +kernel) (by decide) (by decide +kernel) ?_
  refine x_bipush (v := (72 : Int32)) hC dX3_init_25 (by decide) <| x_iload_n hC dX3_init_27 rfl (j := 0) rfl <| x_iadd hC dX3_init_28 <| ?_
  show xV G l mM_X3_init K 29 [(1, .int (36 : Int32)), (0, .ref (xad G 1))] [.int (108 : Int32), .ref (xad G 2)] q76
  refine x_bipush (v := (8 : Int32)) hC dX3_init_29 (by decide) <| ?_
  refine x_iast (N := 194) hC dX3_init_31 (by decide) (by decide +kernel) (by decide) ?_
  show xV G l mM_X3_init K 32 [(1, .int (36 : Int32)), (0, .ref (xad G 1))] [] q77
  refine x_aload_n hC dX3_init_32 rfl (j := 1) rfl <| ?_
  refine x_getR (q := 2) (k := 0) (N := 1) hC dX3_init_33 wfl_X3_9 (by decide) (by decide) (by decide) (by decide +kernel) (by decide) (by decide +kernel) ?_
  refine x_sipush (v := (132 : Int32)) hC dX3_init_36 (by decide) <| x_iload_n hC dX3_init_39 rfl (j := 0) rfl <| x_iadd hC dX3_init_40 <| ?_
  show xV G l mM_X3_init K 41 [(1, .int (36 : Int32)), (0, .ref (xad G 1))] [.int (168 : Int32), .ref (xad G 2)] q77
  refine x_iconst (v := (3 : Int32)) hC dX3_init_41 (by decide) <| ?_
  refine x_iast (N := 194) hC dX3_init_42 (by decide) (by decide +kernel) (by decide) ?_
  show xV G l mM_X3_init K 43 [(1, .int (36 : Int32)), (0, .ref (xad G 1))] [] q78
  refine x_iinc hC dX3_init_43 (j := 0) (v := (37 : Int32)) rfl (by decide) (by decide) rfl <| x_goto (tgt := 15) hC dX3_init_46 (by decide) <| x_iload_n hC dX3_init_15 rfl (j := 0) rfl <| x_bipush (v := (60 : Int32)) hC dX3_init_16 (by decide) <| ?_
  refine x_icmp_ge (tgt := 49) hC dX3_init_18 (by decide) (fun c => absurd c (by decide)) (fun _ => ?_)
  refine x_aload_n hC dX3_init_21 rfl (j := 1) rfl <| ?_
  refine x_getR (q := 2) (k := 0) (N := 1) hC dX3_init_22 wfl_X3_9 (by decide) (by decide) (by decide) (by decide +kernel) (by decide) (by decide +kernel) ?_
  refine x_bipush (v := (72 : Int32)) hC dX3_init_25 (by decide) <| x_iload_n hC dX3_init_27 rfl (j := 0) rfl <| x_iadd hC dX3_init_28 <| ?_
  show xV G l mM_X3_init K 29 [(1, .int (37 : Int32)), (0, .ref (xad G 1))] [.int (109 : Int32), .ref (xad G 2)] q78
  refine x_bipush (v := (8 : Int32)) hC dX3_init_29 (by decide) <| ?_
  refine x_iast (N := 194) hC dX3_init_31 (by decide) (by decide +kernel) (by decide) ?_
  show xV G l mM_X3_init K 32 [(1, .int (37 : Int32)), (0, .ref (xad G 1))] [] q79
  refine x_aload_n hC dX3_init_32 rfl (j := 1) rfl <| ?_
  refine x_getR (q := 2) (k := 0) (N := 1) hC dX3_init_33 wfl_X3_9 (by decide) (by decide) (by decide) (by decide +kernel) (by decide) (by decide +kernel) ?_
  refine x_sipush (v := (132 : Int32)) hC dX3_init_36 (by decide) <| x_iload_n hC dX3_init_39 rfl (j := 0) rfl <| x_iadd hC dX3_init_40 <| ?_
  show xV G l mM_X3_init K 41 [(1, .int (37 : Int32)), (0, .ref (xad G 1))] [.int (169 : Int32), .ref (xad G 2)] q79
  refine x_iconst (v := (3 : Int32)) hC dX3_init_41 (by decide) <| ?_
  refine x_iast (N := 194) hC dX3_init_42 (by decide) (by decide +kernel) (by decide) ?_
  show xV G l mM_X3_init K 43 [(1, .int (37 : Int32)), (0, .ref (xad G 1))] [] q80
  refine x_iinc hC dX3_init_43 (j := 0) (v := (38 : Int32)) rfl (by decide) (by decide) rfl <| x_goto (tgt := 15) hC dX3_init_46 (by decide) <| x_iload_n hC dX3_init_15 rfl (j := 0) rfl <| x_bipush (v := (60 : Int32)) hC dX3_init_16 (by decide) <| ?_
  refine x_icmp_ge (tgt := 49) hC dX3_init_18 (by decide) (fun c => absurd c (by decide)) (fun _ => ?_)
  refine x_aload_n hC dX3_init_21 rfl (j := 1) rfl <| ?_
  refine x_getR (q := 2) (k := 0) (N := 1) hC dX3_init_22 wfl_X3_9 (by decide) (by decide) (by decide) (by decide +kernel) (by decide) (by decide +kernel) ?_
  refine x_bipush (v := (72 : Int32)) hC dX3_init_25 (by decide) <| x_iload_n hC dX3_init_27 rfl (j := 0) rfl <| x_iadd hC dX3_init_28 <| ?_
  show xV G l mM_X3_init K 29 [(1, .int (38 : Int32)), (0, .ref (xad G 1))] [.int (110 : Int32), .ref (xad G 2)] q80
  refine x_bipush (v := (8 : Int32)) hC dX3_init_29 (by decide) <| ?_
  refine x_iast (N := 194) hC dX3_init_31 (by decide) (by decide +kernel) (by decide) ?_
  show xV G l mM_X3_init K 32 [(1, .int (38 : Int32)), (0, .ref (xad G 1))] [] q81
  refine x_aload_n hC dX3_init_32 rfl (j := 1) rfl <| ?_
  refine x_getR (q := 2) (k := 0) (N := 1) hC dX3_init_33 wfl_X3_9 (by decide) (by decide) (by decide) (by decide +kernel) (by decide) (by decide +kernel) ?_
  refine x_sipush (v := (132 : Int32)) hC dX3_init_36 (by decide) <| x_iload_n hC dX3_init_39 rfl (j := 0) rfl <| x_iadd hC dX3_init_40 <| ?_
  show xV G l mM_X3_init K 41 [(1, .int (38 : Int32)), (0, .ref (xad G 1))] [.int (170 : Int32), .ref (xad G 2)] q81
  refine x_iconst (v := (3 : Int32)) hC dX3_init_41 (by decide) <| ?_
  refine x_iast (N := 194) hC dX3_init_42 (by decide) (by decide +kernel) (by decide) ?_
  show xV G l mM_X3_init K 43 [(1, .int (38 : Int32)), (0, .ref (xad G 1))] [] q82
  refine x_iinc hC dX3_init_43 (j := 0) (v := (39 : Int32)) rfl (by decide) (by decide) rfl <| x_goto (tgt := 15) hC dX3_init_46 (by decide) <| x_iload_n hC dX3_init_15 rfl (j := 0) rfl <| x_bipush (v := (60 : Int32)) hC dX3_init_16 (by decide) <| ?_
  refine x_icmp_ge (tgt := 49) hC dX3_init_18 (by decide) (fun c => absurd c (by decide)) (fun _ => ?_)
  refine x_aload_n hC dX3_init_21 rfl (j := 1) rfl <| ?_
  refine x_getR (q := 2) (k := 0) (N := 1) hC dX3_init_22 wfl_X3_9 (by decide) (by decide) (by decide) (by decide +kernel) (by decide) (by decide +kernel) ?_
  refine x_bipush (v := (72 : Int32)) hC dX3_init_25 (by decide) <| x_iload_n hC dX3_init_27 rfl (j := 0) rfl <| x_iadd hC dX3_init_28 <| ?_
  show xV G l mM_X3_init K 29 [(1, .int (39 : Int32)), (0, .ref (xad G 1))] [.int (111 : Int32), .ref (xad G 2)] q82
  refine x_bipush (v := (8 : Int32)) hC dX3_init_29 (by decide) <| ?_
  refine x_iast (N := 194) hC dX3_init_31 (by decide) (by decide +kernel) (by decide) ?_
  show xV G l mM_X3_init K 32 [(1, .int (39 : Int32)), (0, .ref (xad G 1))] [] q83
  refine x_aload_n hC dX3_init_32 rfl (j := 1) rfl <| ?_
  refine x_getR (q := 2) (k := 0) (N := 1) hC dX3_init_33 wfl_X3_9 (by decide) (by decide) (by decide) (by decide +kernel) (by decide) (by decide +kernel) ?_
  refine x_sipush (v := (132 : Int32)) hC dX3_init_36 (by decide) <| x_iload_n hC dX3_init_39 rfl (j := 0) rfl <| x_iadd hC dX3_init_40 <| ?_
  show xV G l mM_X3_init K 41 [(1, .int (39 : Int32)), (0, .ref (xad G 1))] [.int (171 : Int32), .ref (xad G 2)] q83
  refine x_iconst (v := (3 : Int32)) hC dX3_init_41 (by decide) <| ?_
  refine x_iast (N := 194) hC dX3_init_42 (by decide) (by decide +kernel) (by decide) ?_
  show xV G l mM_X3_init K 43 [(1, .int (39 : Int32)), (0, .ref (xad G 1))] [] q84
  refine x_iinc hC dX3_init_43 (j := 0) (v := (40 : Int32)) rfl (by decide) (by decide) rfl <| x_goto (tgt := 15) hC dX3_init_46 (by decide) <| x_iload_n hC dX3_init_15 rfl (j := 0) rfl <| x_bipush (v := (60 : Int32)) hC dX3_init_16 (by decide) <| ?_
  refine x_icmp_ge (tgt := 49) hC dX3_init_18 (by decide) (fun c => absurd c (by decide)) (fun _ => ?_)
  refine x_aload_n hC dX3_init_21 rfl (j := 1) rfl <| ?_
  refine x_getR (q := 2) (k := 0) (N := 1) hC dX3_init_22 wfl_X3_9 (by decide) (by decide) (by decide) (by decide +kernel) (by decide) (by decide +kernel) ?_
  refine x_bipush (v := (72 : Int32)) hC dX3_init_25 (by decide) <| x_iload_n hC dX3_init_27 rfl (j := 0) rfl <| x_iadd hC dX3_init_28 <| ?_
  show xV G l mM_X3_init K 29 [(1, .int (40 : Int32)), (0, .ref (xad G 1))] [.int (112 : Int32), .ref (xad G 2)] q84
  refine x_bipush (v := (8 : Int32)) hC dX3_init_29 (by decide) <| ?_
  refine x_iast (N := 194) hC dX3_init_31 (by decide) (by decide +kernel) (by decide) ?_
  show xV G l mM_X3_init K 32 [(1, .int (40 : Int32)), (0, .ref (xad G 1))] [] q85
  refine x_aload_n hC dX3_init_32 rfl (j := 1) rfl <| ?_
  refine x_getR (q := 2) (k := 0) (N := 1) hC dX3_init_33 wfl_X3_9 (by decide) (by decide) (by decide) (by decide +kernel) (by decide) (by decide +kernel) ?_
  refine x_sipush (v := (132 : Int32)) hC dX3_init_36 (by decide) <| x_iload_n hC dX3_init_39 rfl (j := 0) rfl <| x_iadd hC dX3_init_40 <| ?_
  show xV G l mM_X3_init K 41 [(1, .int (40 : Int32)), (0, .ref (xad G 1))] [.int (172 : Int32), .ref (xad G 2)] q85
  refine x_iconst (v := (3 : Int32)) hC dX3_init_41 (by decide) <| ?_
  refine x_iast (N := 194) hC dX3_init_42 (by decide) (by decide +kernel) (by decide) ?_
  show xV G l mM_X3_init K 43 [(1, .int (40 : Int32)), (0, .ref (xad G 1))] [] q86
  refine x_iinc hC dX3_init_43 (j := 0) (v := (41 : Int32)) rfl (by decide) (by decide) rfl <| x_goto (tgt := 15) hC dX3_init_46 (by decide) <| x_iload_n hC dX3_init_15 rfl (j := 0) rfl <| x_bipush (v := (60 : Int32)) hC dX3_init_16 (by decide) <| ?_
  refine x_icmp_ge (tgt := 49) hC dX3_init_18 (by decide) (fun c => absurd c (by decide)) (fun _ => ?_)
  refine x_aload_n hC dX3_init_21 rfl (j := 1) rfl <| ?_
  refine x_getR (q := 2) (k := 0) (N := 1) hC dX3_init_22 wfl_X3_9 (by decide) (by decide) (by decide) (by decide +kernel) (by decide) (by decide +kernel) ?_
  refine x_bipush (v := (72 : Int32)) hC dX3_init_25 (by decide) <| x_iload_n hC dX3_init_27 rfl (j := 0) rfl <| x_iadd hC dX3_init_28 <| ?_
  show xV G l mM_X3_init K 29 [(1, .int (41 : Int32)), (0, .ref (xad G 1))] [.int (113 : Int32), .ref (xad G 2)] q86
  refine x_bipush (v := (8 : Int32)) hC dX3_init_29 (by decide) <| ?_
  refine x_iast (N := 194) hC dX3_init_31 (by decide) (by decide +kernel) (by decide) ?_
  show xV G l mM_X3_init K 32 [(1, .int (41 : Int32)), (0, .ref (xad G 1))] [] q87
  refine x_aload_n hC dX3_init_32 rfl (j := 1) rfl <| ?_
  refine x_getR (q := 2) (k := 0) (N := 1) hC dX3_init_33 wfl_X3_9 (by decide) (by decide) (by decide) (by decide +kernel) (by decide) (by decide +kernel) ?_
  refine x_sipush (v := (132 : Int32)) hC dX3_init_36 (by decide) <| x_iload_n hC dX3_init_39 rfl (j := 0) rfl <| x_iadd hC dX3_init_40 <| ?_
  show xV G l mM_X3_init K 41 [(1, .int (41 : Int32)), (0, .ref (xad G 1))] [.int (173 : Int32), .ref (xad G 2)] q87
  refine x_iconst (v := (3 : Int32)) hC dX3_init_41 (by decide) <| ?_
  refine x_iast (N := 194) hC dX3_init_42 (by decide) (by decide +kernel) (by decide) ?_
  show xV G l mM_X3_init K 43 [(1, .int (41 : Int32)), (0, .ref (xad G 1))] [] q88
  refine x_iinc hC dX3_init_43 (j := 0) (v := (42 : Int32)) rfl (by decide) (by decide) rfl <| x_goto (tgt := 15) hC dX3_init_46 (by decide) <| x_iload_n hC dX3_init_15 rfl (j := 0) rfl <| x_bipush (v := (60 : Int32)) hC dX3_init_16 (by decide) <| ?_
  refine x_icmp_ge (tgt := 49) hC dX3_init_18 (by decide) (fun c => absurd c (by decide)) (fun _ => ?_)
  refine x_aload_n hC dX3_init_21 rfl (j := 1) rfl <| ?_
  refine x_getR (q := 2) (k := 0) (N := 1) hC dX3_init_22 wfl_X3_9 (by decide) (by decide) (by decide) (by decide +kernel) (by decide) (by decide +kernel) ?_
  refine x_bipush (v := (72 : Int32)) hC dX3_init_25 (by decide) <| x_iload_n hC dX3_init_27 rfl (j := 0) rfl <| x_iadd hC dX3_init_28 <| ?_
  show xV G l mM_X3_init K 29 [(1, .int (42 : Int32)), (0, .ref (xad G 1))] [.int (114 : Int32), .ref (xad G 2)] q88
  refine x_bipush (v := (8 : Int32)) hC dX3_init_29 (by decide) <| ?_
  refine x_iast (N := 194) hC dX3_init_31 (by decide) (by decide +kernel) (by decide) ?_
  show xV G l mM_X3_init K 32 [(1, .int (42 : Int32)), (0, .ref (xad G 1))] [] q89
  refine x_aload_n hC dX3_init_32 rfl (j := 1) rfl <| ?_
  refine x_getR (q := 2) (k := 0) (N := 1) hC dX3_init_33 wfl_X3_9 (by decide) (by decide) (by decide) (by decide +kernel) (by decide) (by decide +kernel) ?_
  refine x_sipush (v := (132 : Int32)) hC dX3_init_36 (by decide) <| x_iload_n hC dX3_init_39 rfl (j := 0) rfl <| x_iadd hC dX3_init_40 <| ?_
  show xV G l mM_X3_init K 41 [(1, .int (42 : Int32)), (0, .ref (xad G 1))] [.int (174 : Int32), .ref (xad G 2)] q89
  refine x_iconst (v := (3 : Int32)) hC dX3_init_41 (by decide) <| ?_
  refine x_iast (N := 194) hC dX3_init_42 (by decide) (by decide +kernel) (by decide) ?_
  show xV G l mM_X3_init K 43 [(1, .int (42 : Int32)), (0, .ref (xad G 1))] [] q90
  refine x_iinc hC dX3_init_43 (j := 0) (v := (43 : Int32)) rfl (by decide) (by decide) rfl <| x_goto (tgt := 15) hC dX3_init_46 (by decide) <| x_iload_n hC dX3_init_15 rfl (j := 0) rfl <| x_bipush (v := (60 : Int32)) hC dX3_init_16 (by decide) <| ?_
  refine x_icmp_ge (tgt := 49) hC dX3_init_18 (by decide) (fun c => absurd c (by decide)) (fun _ => ?_)
  refine x_aload_n hC dX3_init_21 rfl (j := 1) rfl <| ?_
  refine x_getR (q := 2) (k := 0) (N := 1) hC dX3_init_22 wfl_X3_9 (by decide) (by decide) (by decide) (by decide +kernel) (by decide) (by decide +kernel) ?_
  refine x_bipush (v := (72 : Int32)) hC dX3_init_25 (by decide) <| x_iload_n hC dX3_init_27 rfl (j := 0) rfl <| x_iadd hC dX3_init_28 <| ?_
  show xV G l mM_X3_init K 29 [(1, .int (43 : Int32)), (0, .ref (xad G 1))] [.int (115 : Int32), .ref (xad G 2)] q90
  refine x_bipush (v := (8 : Int32)) hC dX3_init_29 (by decide) <| ?_
  refine x_iast (N := 194) hC dX3_init_31 (by decide) (by decide +kernel) (by decide) ?_
  show xV G l mM_X3_init K 32 [(1, .int (43 : Int32)), (0, .ref (xad G 1))] [] q91
  refine x_aload_n hC dX3_init_32 rfl (j := 1) rfl <| ?_
  refine x_getR (q := 2) (k := 0) (N := 1) hC dX3_init_33 wfl_X3_9 (by decide) (by decide) (by decide) (by decide +kernel) (by decide) (by decide +kernel) ?_
  refine x_sipush (v := (132 : Int32)) hC dX3_init_36 (by decide) <| x_iload_n hC dX3_init_39 rfl (j := 0) rfl <| x_iadd hC dX3_init_40 <| ?_
  show xV G l mM_X3_init K 41 [(1, .int (43 : Int32)), (0, .ref (xad G 1))] [.int (175 : Int32), .ref (xad G 2)] q91
  refine x_iconst (v := (3 : Int32)) hC dX3_init_41 (by decide) <| ?_
  refine x_iast (N := 194) hC dX3_init_42 (by decide) (by decide +kernel) (by decide) ?_
  show xV G l mM_X3_init K 43 [(1, .int (43 : Int32)), (0, .ref (xad G 1))] [] q92
  refine x_iinc hC dX3_init_43 (j := 0) (v := (44 : Int32)) rfl (by decide) (by decide) rfl <| x_goto (tgt := 15) hC dX3_init_46 (by decide) <| x_iload_n hC dX3_init_15 rfl (j := 0) rfl <| x_bipush (v := (60 : Int32)) hC dX3_init_16 (by decide) <| ?_
  refine x_icmp_ge (tgt := 49) hC dX3_init_18 (by decide) (fun c => absurd c (by decide)) (fun _ => ?_)
  refine x_aload_n hC dX3_init_21 rfl (j := 1) rfl <| ?_
  refine x_getR (q := 2) (k := 0) (N := 1) hC dX3_init_22 wfl_X3_9 (by decide) (by decide) (by decide) (by decide +kernel) (by decide) (by decide +kernel) ?_
  refine x_bipush (v := (72 : Int32)) hC dX3_init_25 (by decide) <| x_iload_n hC dX3_init_27 rfl (j := 0) rfl <| x_iadd hC dX3_init_28 <| ?_
  show xV G l mM_X3_init K 29 [(1, .int (44 : Int32)), (0, .ref (xad G 1))] [.int (116 : Int32), .ref (xad G 2)] q92
  refine x_bipush (v := (8 : Int32)) hC dX3_init_29 (by decide) <| ?_
  refine x_iast (N := 194) hC dX3_init_31 (by decide) (by decide +kernel) (by decide) ?_
  show xV G l mM_X3_init K 32 [(1, .int (44 : Int32)), (0, .ref (xad G 1))] [] q93
  refine x_aload_n hC dX3_init_32 rfl (j := 1) rfl <| ?_
  refine x_getR (q := 2) (k := 0) (N := 1) hC dX3_init_33 wfl_X3_9 (by decide) (by decide) (by decide) (by decide +kernel) (by decide) (by decide +kernel) ?_
  refine x_sipush (v := (132 : Int32)) hC dX3_init_36 (by decide) <| x_iload_n hC dX3_init_39 rfl (j := 0) rfl <| x_iadd hC dX3_init_40 <| ?_
  show xV G l mM_X3_init K 41 [(1, .int (44 : Int32)), (0, .ref (xad G 1))] [.int (176 : Int32), .ref (xad G 2)] q93
  refine x_iconst (v := (3 : Int32)) hC dX3_init_41 (by decide) <| ?_
  refine x_iast (N := 194) hC dX3_init_42 (by decide) (by decide +kernel) (by decide) ?_
  show xV G l mM_X3_init K 43 [(1, .int (44 : Int32)), (0, .ref (xad G 1))] [] q94
  refine x_iinc hC dX3_init_43 (j := 0) (v := (45 : Int32)) rfl (by decide) (by decide) rfl <| x_goto (tgt := 15) hC dX3_init_46 (by decide) <| x_iload_n hC dX3_init_15 rfl (j := 0) rfl <| x_bipush (v := (60 : Int32)) hC dX3_init_16 (by decide) <| ?_
  refine x_icmp_ge (tgt := 49) hC dX3_init_18 (by decide) (fun c => absurd c (by decide)) (fun _ => ?_)
  refine x_aload_n hC dX3_init_21 rfl (j := 1) rfl <| ?_
  refine x_getR (q := 2) (k := 0) (N := 1) hC dX3_init_22 wfl_X3_9 (by decide) (by decide) (by decide) (by decide +kernel) (by decide) (by decide +kernel) ?_
  refine x_bipush (v := (72 : Int32)) hC dX3_init_25 (by decide) <| x_iload_n hC dX3_init_27 rfl (j := 0) rfl <| x_iadd hC dX3_init_28 <| ?_
  show xV G l mM_X3_init K 29 [(1, .int (45 : Int32)), (0, .ref (xad G 1))] [.int (117 : Int32), .ref (xad G 2)] q94
  refine x_bipush (v := (8 : Int32)) hC dX3_init_29 (by decide) <| ?_
  refine x_iast (N := 194) hC dX3_init_31 (by decide) (by decide +kernel) (by decide) ?_
  show xV G l mM_X3_init K 32 [(1, .int (45 : Int32)), (0, .ref (xad G 1))] [] q95
  refine x_aload_n hC dX3_init_32 rfl (j := 1) rfl <| ?_
  refine x_getR (q := 2) (k := 0) (N := 1) hC dX3_init_33 wfl_X3_9 (by decide) (by decide) (by decide) (by decide +kernel) (by decide) (by decide +kernel) ?_
  refine x_sipush (v := (132 : Int32)) hC dX3_init_36 (by decide) <| x_iload_n hC dX3_init_39 rfl (j := 0) rfl <| x_iadd hC dX3_init_40 <| ?_
  show xV G l mM_X3_init K 41 [(1, .int (45 : Int32)), (0, .ref (xad G 1))] [.int (177 : Int32), .ref (xad G 2)] q95
  refine x_iconst (v := (3 : Int32)) hC dX3_init_41 (by decide) <| ?_
  refine x_iast (N := 194) hC dX3_init_42 (by decide) (by decide +kernel) (by decide) ?_
  show xV G l mM_X3_init K 43 [(1, .int (45 : Int32)), (0, .ref (xad G 1))] [] q96
  refine x_iinc hC dX3_init_43 (j := 0) (v := (46 : Int32)) rfl (by decide) (by decide) rfl <| x_goto (tgt := 15) hC dX3_init_46 (by decide) <| x_iload_n hC dX3_init_15 rfl (j := 0) rfl <| x_bipush (v := (60 : Int32)) hC dX3_init_16 (by decide) <| ?_
  refine x_icmp_ge (tgt := 49) hC dX3_init_18 (by decide) (fun c => absurd c (by decide)) (fun _ => ?_)
  refine x_aload_n hC dX3_init_21 rfl (j := 1) rfl <| ?_
  refine x_getR (q := 2) (k := 0) (N := 1) hC dX3_init_22 wfl_X3_9 (by decide) (by decide) (by decide) (by decide +kernel) (by decide) (by decide +kernel) ?_
  refine x_bipush (v := (72 : Int32)) hC dX3_init_25 (by decide) <| x_iload_n hC dX3_init_27 rfl (j := 0) rfl <| x_iadd hC dX3_init_28 <| ?_
  show xV G l mM_X3_init K 29 [(1, .int (46 : Int32)), (0, .ref (xad G 1))] [.int (118 : Int32), .ref (xad G 2)] q96
  refine x_bipush (v := (8 : Int32)) hC dX3_init_29 (by decide) <| ?_
  refine x_iast (N := 194) hC dX3_init_31 (by decide) (by decide +kernel) (by decide) ?_
  show xV G l mM_X3_init K 32 [(1, .int (46 : Int32)), (0, .ref (xad G 1))] [] q97
  refine x_aload_n hC dX3_init_32 rfl (j := 1) rfl <| ?_
  refine x_getR (q := 2) (k := 0) (N := 1) hC dX3_init_33 wfl_X3_9 (by decide) (by decide) (by decide) (by decide +kernel) (by decide) (by decide +kernel) ?_
  refine x_sipush (v := (132 : Int32)) hC dX3_init_36 (by decide) <| x_iload_n hC dX3_init_39 rfl (j := 0) rfl <| x_iadd hC dX3_init_40 <| ?_
  show xV G l mM_X3_init K 41 [(1, .int (46 : Int32)), (0, .ref (xad G 1))] [.int (178 : Int32), .ref (xad G 2)] q97
  refine x_iconst (v := (3 : Int32)) hC dX3_init_41 (by decide) <| ?_
  refine x_iast (N := 194) hC dX3_init_42 (by decide) (by decide +kernel) (by decide) ?_
  show xV G l mM_X3_init K 43 [(1, .int (46 : Int32)), (0, .ref (xad G 1))] [] q98
  refine x_iinc hC dX3_init_43 (j := 0) (v := (47 : Int32)) rfl (by decide) (by decide) rfl <| x_goto (tgt := 15) hC dX3_init_46 (by decide) <| x_iload_n hC dX3_init_15 rfl (j := 0) rfl <| x_bipush (v := (60 : Int32)) hC dX3_init_16 (by decide) <| ?_
  refine x_icmp_ge (tgt := 49) hC dX3_init_18 (by decide) (fun c => absurd c (by decide)) (fun _ => ?_)
  refine x_aload_n hC dX3_init_21 rfl (j := 1) rfl <| ?_
  refine x_getR (q := 2) (k := 0) (N := 1) hC dX3_init_22 wfl_X3_9 (by decide) (by decide) (by decide) (by decide +kernel) (by decide) (by decide +kernel) ?_
  refine x_bipush (v := (72 : Int32)) hC dX3_init_25 (by decide) <| x_iload_n hC dX3_init_27 rfl (j := 0) rfl <| x_iadd hC dX3_init_28 <| ?_
  show xV G l mM_X3_init K 29 [(1, .int (47 : Int32)), (0, .ref (xad G 1))] [.int (119 : Int32), .ref (xad G 2)] q98
  refine x_bipush (v := (8 : Int32)) hC dX3_init_29 (by decide) <| ?_
  refine x_iast (N := 194) hC dX3_init_31 (by decide) (by decide +kernel) (by decide) ?_
  show xV G l mM_X3_init K 32 [(1, .int (47 : Int32)), (0, .ref (xad G 1))] [] q99
  refine x_aload_n hC dX3_init_32 rfl (j := 1) rfl <| ?_
  refine x_getR (q := 2) (k := 0) (N := 1) hC dX3_init_33 wfl_X3_9 (by decide) (by decide) (by decide) (by decide +kernel) (by decide) (by decide +kernel) ?_
  refine x_sipush (v := (132 : Int32)) hC dX3_init_36 (by decide) <| x_iload_n hC dX3_init_39 rfl (j := 0) rfl <| x_iadd hC dX3_init_40 <| ?_
  show xV G l mM_X3_init K 41 [(1, .int (47 : Int32)), (0, .ref (xad G 1))] [.int (179 : Int32), .ref (xad G 2)] q99
  refine x_iconst (v := (3 : Int32)) hC dX3_init_41 (by decide) <| ?_
  refine x_iast (N := 194) hC dX3_init_42 (by decide) (by decide +kernel) (by decide) ?_
  show xV G l mM_X3_init K 43 [(1, .int (47 : Int32)), (0, .ref (xad G 1))] [] q100
  refine x_iinc hC dX3_init_43 (j := 0) (v := (48 : Int32)) rfl (by decide) (by decide) rfl <| x_goto (tgt := 15) hC dX3_init_46 (by decide) <| x_iload_n hC dX3_init_15 rfl (j := 0) rfl <| x_bipush (v := (60 : Int32)) hC dX3_init_16 (by decide) <| ?_
  refine x_icmp_ge (tgt := 49) hC dX3_init_18 (by decide) (fun c => absurd c (by decide)) (fun _ => ?_)
  refine x_aload_n hC dX3_init_21 rfl (j := 1) rfl <| ?_
  refine x_getR (q := 2) (k := 0) (N := 1) hC dX3_init_22 wfl_X3_9 (by decide) (by decide) (by decide) (by decide +kernel) (by decide) (by decide +kernel) ?_
  refine x_bipush (v := (72 : Int32)) hC dX3_init_25 (by decide) <| x_iload_n hC dX3_init_27 rfl (j := 0) rfl <| x_iadd hC dX3_init_28 <| ?_
  show xV G l mM_X3_init K 29 [(1, .int (48 : Int32)), (0, .ref (xad G 1))] [.int (120 : Int32), .ref (xad G 2)] q100
  refine x_bipush (v := (8 : Int32)) hC dX3_init_29 (by decide) <| ?_
  refine x_iast (N := 194) hC dX3_init_31 (by decide) (by decide +kernel) (by decide) ?_
  show xV G l mM_X3_init K 32 [(1, .int (48 : Int32)), (0, .ref (xad G 1))] [] q101
  refine x_aload_n hC dX3_init_32 rfl (j := 1) rfl <| ?_
  refine x_getR (q := 2) (k := 0) (N := 1) hC dX3_init_33 wfl_X3_9 (by decide) (by decide) (by decide) (by decide +kernel) (by decide) (by decide +kernel) ?_
  refine x_sipush (v := (132 : Int32)) hC dX3_init_36 (by decide) <| x_iload_n hC dX3_init_39 rfl (j := 0) rfl <| x_iadd hC dX3_init_40 <| ?_
  show xV G l mM_X3_init K 41 [(1, .int (48 : Int32)), (0, .ref (xad G 1))] [.int (180 : Int32), .ref (xad G 2)] q101
  refine x_iconst (v := (3 : Int32)) hC dX3_init_41 (by decide) <| ?_
  refine x_iast (N := 194) hC dX3_init_42 (by decide) (by decide +kernel) (by decide) ?_
  show xV G l mM_X3_init K 43 [(1, .int (48 : Int32)), (0, .ref (xad G 1))] [] q102
  refine x_iinc hC dX3_init_43 (j := 0) (v := (49 : Int32)) rfl (by decide) (by decide) rfl <| x_goto (tgt := 15) hC dX3_init_46 (by decide) <| x_iload_n hC dX3_init_15 rfl (j := 0) rfl <| x_bipush (v := (60 : Int32)) hC dX3_init_16 (by decide) <| ?_
  refine x_icmp_ge (tgt := 49) hC dX3_init_18 (by decide) (fun c => absurd c (by decide)) (fun _ => ?_)
  refine x_aload_n hC dX3_init_21 rfl (j := 1) rfl <| ?_
  refine x_getR (q := 2) (k := 0) (N := 1) hC dX3_init_22 wfl_X3_9 (by decide) (by decide) (by decide) (by decide +kernel) (by decide) (by decide +kernel) ?_
  refine x_bipush (v := (72 : Int32)) hC dX3_init_25 (by decide) <| x_iload_n hC dX3_init_27 rfl (j := 0) rfl <| x_iadd hC dX3_init_28 <| ?_
  show xV G l mM_X3_init K 29 [(1, .int (49 : Int32)), (0, .ref (xad G 1))] [.int (121 : Int32), .ref (xad G 2)] q102
  refine x_bipush (v := (8 : Int32)) hC dX3_init_29 (by decide) <| ?_
  refine x_iast (N := 194) hC dX3_init_31 (by decide) (by decide +kernel) (by decide) ?_
  show xV G l mM_X3_init K 32 [(1, .int (49 : Int32)), (0, .ref (xad G 1))] [] q103
  refine x_aload_n hC dX3_init_32 rfl (j := 1) rfl <| ?_
  refine x_getR (q := 2) (k := 0) (N := 1) hC dX3_init_33 wfl_X3_9 (by decide) (by decide) (by decide) (by decide +kernel) (by decide) (by decide +kernel) ?_
  refine x_sipush (v := (132 : Int32)) hC dX3_init_36 (by decide) <| x_iload_n hC dX3_init_39 rfl (j := 0) rfl <| x_iadd hC dX3_init_40 <| ?_
  show xV G l mM_X3_init K 41 [(1, .int (49 : Int32)), (0, .ref (xad G 1))] [.int (181 : Int32), .ref (xad G 2)] q103
  refine x_iconst (v := (3 : Int32)) hC dX3_init_41 (by decide) <| ?_
  refine x_iast (N := 194) hC dX3_init_42 (by decide) (by decide +kernel) (by decide) ?_
  show xV G l mM_X3_init K 43 [(1, .int (49 : Int32)), (0, .ref (xad G 1))] [] q104
  refine x_iinc hC dX3_init_43 (j := 0) (v := (50 : Int32)) rfl (by decide) (by decide) rfl <| x_goto (tgt := 15) hC dX3_init_46 (by decide) <| x_iload_n hC dX3_init_15 rfl (j := 0) rfl <| x_bipush (v := (60 : Int32)) hC dX3_init_16 (by decide) <| ?_
  refine x_icmp_ge (tgt := 49) hC dX3_init_18 (by decide) (fun c => absurd c (by decide)) (fun _ => ?_)
  refine x_aload_n hC dX3_init_21 rfl (j := 1) rfl <| ?_
  refine x_getR (q := 2) (k := 0) (N := 1) hC dX3_init_22 wfl_X3_9 (by decide) (by decide) (by decide) (by decide +kernel) (by decide) (by decide +kernel) ?_
  refine x_bipush (v := (72 : Int32)) hC dX3_init_25 (by decide) <| x_iload_n hC dX3_init_27 rfl (j := 0) rfl <| x_iadd hC dX3_init_28 <| ?_
  show xV G l mM_X3_init K 29 [(1, .int (50 : Int32)), (0, .ref (xad G 1))] [.int (122 : Int32), .ref (xad G 2)] q104
  refine x_bipush (v := (8 : Int32)) hC dX3_init_29 (by decide) <| ?_
  refine x_iast (N := 194) hC dX3_init_31 (by decide) (by decide +kernel) (by decide) ?_
  show xV G l mM_X3_init K 32 [(1, .int (50 : Int32)), (0, .ref (xad G 1))] [] q105
  refine x_aload_n hC dX3_init_32 rfl (j := 1) rfl <| ?_
  refine x_getR (q := 2) (k := 0) (N := 1) hC dX3_init_33 wfl_X3_9 (by decide) (by decide) (by decide) (by decide +kernel) (by decide) (by decide +kernel) ?_
  refine x_sipush (v := (132 : Int32)) hC dX3_init_36 (by decide) <| x_iload_n hC dX3_init_39 rfl (j := 0) rfl <| x_iadd hC dX3_init_40 <| ?_
  show xV G l mM_X3_init K 41 [(1, .int (50 : Int32)), (0, .ref (xad G 1))] [.int (182 : Int32), .ref (xad G 2)] q105
  refine x_iconst (v := (3 : Int32)) hC dX3_init_41 (by decide) <| ?_
  refine x_iast (N := 194) hC dX3_init_42 (by decide) (by decide +kernel) (by decide) ?_
  show xV G l mM_X3_init K 43 [(1, .int (50 : Int32)), (0, .ref (xad G 1))] [] q106
  refine x_iinc hC dX3_init_43 (j := 0) (v := (51 : Int32)) rfl (by decide) (by decide) rfl <| x_goto (tgt := 15) hC dX3_init_46 (by decide) <| x_iload_n hC dX3_init_15 rfl (j := 0) rfl <| x_bipush (v := (60 : Int32)) hC dX3_init_16 (by decide) <| ?_
  refine x_icmp_ge (tgt := 49) hC dX3_init_18 (by decide) (fun c => absurd c (by decide)) (fun _ => ?_)
  refine x_aload_n hC dX3_init_21 rfl (j := 1) rfl <| ?_
  refine x_getR (q := 2) (k := 0) (N := 1) hC dX3_init_22 wfl_X3_9 (by decide) (by decide) (by decide) (by decide +kernel) (by decide) (by decide +kernel) ?_
  refine x_bipush (v := (72 : Int32)) hC dX3_init_25 (by decide) <| x_iload_n hC dX3_init_27 rfl (j := 0) rfl <| x_iadd hC dX3_init_28 <| ?_
  show xV G l mM_X3_init K 29 [(1, .int (51 : Int32)), (0, .ref (xad G 1))] [.int (123 : Int32), .ref (xad G 2)] q106
  refine x_bipush (v := (8 : Int32)) hC dX3_init_29 (by decide) <| ?_
  refine x_iast (N := 194) hC dX3_init_31 (by decide) (by decide +kernel) (by decide) ?_
  show xV G l mM_X3_init K 32 [(1, .int (51 : Int32)), (0, .ref (xad G 1))] [] q107
  refine x_aload_n hC dX3_init_32 rfl (j := 1) rfl <| ?_
  refine x_getR (q := 2) (k := 0) (N := 1) hC dX3_init_33 wfl_X3_9 (by decide) (by decide) (by decide) (by decide +kernel) (by decide) (by decide +kernel) ?_
  refine x_sipush (v := (132 : Int32)) hC dX3_init_36 (by decide) <| x_iload_n hC dX3_init_39 rfl (j := 0) rfl <| x_iadd hC dX3_init_40 <| ?_
  show xV G l mM_X3_init K 41 [(1, .int (51 : Int32)), (0, .ref (xad G 1))] [.int (183 : Int32), .ref (xad G 2)] q107
  refine x_iconst (v := (3 : Int32)) hC dX3_init_41 (by decide) <| ?_
  refine x_iast (N := 194) hC dX3_init_42 (by decide) (by decide +kernel) (by decide) ?_
  show xV G l mM_X3_init K 43 [(1, .int (51 : Int32)), (0, .ref (xad G 1))] [] q108
  refine x_iinc hC dX3_init_43 (j := 0) (v := (52 : Int32)) rfl (by decide) (by decide) rfl <| x_goto (tgt := 15) hC dX3_init_46 (by decide) <| x_iload_n hC dX3_init_15 rfl (j := 0) rfl <| x_bipush (v := (60 : Int32)) hC dX3_init_16 (by decide) <| ?_
  refine x_icmp_ge (tgt := 49) hC dX3_init_18 (by decide) (fun c => absurd c (by decide)) (fun _ => ?_)
  refine x_aload_n hC dX3_init_21 rfl (j := 1) rfl <| ?_
  refine x_getR (q := 2) (k := 0) (N := 1) hC dX3_init_22 wfl_X3_9 (by decide) (by decide) (by decide) (by decide +kernel) (by decide) (by decide +kernel) ?_
  refine x_bipush (v := (72 : Int32)) hC dX3_init_25 (by decide) <| x_iload_n hC dX3_init_27 rfl (j := 0) rfl <| x_iadd hC dX3_init_28 <| ?_
  show xV G l mM_X3_init K 29 [(1, .int (52 : Int32)), (0, .ref (xad G 1))] [.int (124 : Int32), .ref (xad G 2)] q108
  refine x_bipush (v := (8 : Int32)) hC dX3_init_29 (by decide) <| ?_
  refine x_iast (N := 194) hC dX3_init_31 (by decide) (by decide +kernel) (by decide) ?_
  show xV G l mM_X3_init K 32 [(1, .int (52 : Int32)), (0, .ref (xad G 1))] [] q109
  refine x_aload_n hC dX3_init_32 rfl (j := 1) rfl <| ?_
  refine x_getR (q := 2) (k := 0) (N := 1) hC dX3_init_33 wfl_X3_9 (by decide) (by decide) (by decide) (by decide +kernel) (by decide) (by decide +kernel) ?_
  refine x_sipush (v := (132 : Int32)) hC dX3_init_36 (by decide) <| x_iload_n hC dX3_init_39 rfl (j := 0) rfl <| x_iadd hC dX3_init_40 <| ?_
  show xV G l mM_X3_init K 41 [(1, .int (52 : Int32)), (0, .ref (xad G 1))] [.int (184 : Int32), .ref (xad G 2)] q109
  refine x_iconst (v := (3 : Int32)) hC dX3_init_41 (by decide) <| ?_
  refine x_iast (N := 194) hC dX3_init_42 (by decide) (by decide +kernel) (by decide) ?_
  show xV G l mM_X3_init K 43 [(1, .int (52 : Int32)), (0, .ref (xad G 1))] [] q110
  refine x_iinc hC dX3_init_43 (j := 0) (v := (53 : Int32)) rfl (by decide) (by decide) rfl <| x_goto (tgt := 15) hC dX3_init_46 (by decide) <| x_iload_n hC dX3_init_15 rfl (j := 0) rfl <| x_bipush (v := (60 : Int32)) hC dX3_init_16 (by decide) <| ?_
  refine x_icmp_ge (tgt := 49) hC dX3_init_18 (by decide) (fun c => absurd c (by decide)) (fun _ => ?_)
  refine x_aload_n hC dX3_init_21 rfl (j := 1) rfl <| ?_
  refine x_getR (q := 2) (k := 0) (N := 1) hC dX3_init_22 wfl_X3_9 (by decide) (by decide) (by decide) (by decide +kernel) (by decide) (by decide +kernel) ?_
  refine x_bipush (v := (72 : Int32)) hC dX3_init_25 (by decide) <| x_iload_n hC dX3_init_27 rfl (j := 0) rfl <| x_iadd hC dX3_init_28 <| ?_
  show xV G l mM_X3_init K 29 [(1, .int (53 : Int32)), (0, .ref (xad G 1))] [.int (125 : Int32), .ref (xad G 2)] q110
  refine x_bipush (v := (8 : Int32)) hC dX3_init_29 (by decide) <| ?_
  refine x_iast (N := 194) hC dX3_init_31 (by decide) (by decide +kernel) (by decide) ?_
  show xV G l mM_X3_init K 32 [(1, .int (53 : Int32)), (0, .ref (xad G 1))] [] q111
  refine x_aload_n hC dX3_init_32 rfl (j := 1) rfl <| ?_
  refine x_getR (q := 2) (k := 0) (N := 1) hC dX3_init_33 wfl_X3_9 (by decide) (by decide) (by decide) (by decide +kernel) (by decide) (by decide +kernel) ?_
  refine x_sipush (v := (132 : Int32)) hC dX3_init_36 (by decide) <| x_iload_n hC dX3_init_39 rfl (j := 0) rfl <| x_iadd hC dX3_init_40 <| ?_
  show xV G l mM_X3_init K 41 [(1, .int (53 : Int32)), (0, .ref (xad G 1))] [.int (185 : Int32), .ref (xad G 2)] q111
  refine x_iconst (v := (3 : Int32)) hC dX3_init_41 (by decide) <| ?_
  refine x_iast (N := 194) hC dX3_init_42 (by decide) (by decide +kernel) (by decide) ?_
  show xV G l mM_X3_init K 43 [(1, .int (53 : Int32)), (0, .ref (xad G 1))] [] q112
  refine x_iinc hC dX3_init_43 (j := 0) (v := (54 : Int32)) rfl (by decide) (by decide) rfl <| x_goto (tgt := 15) hC dX3_init_46 (by decide) <| x_iload_n hC dX3_init_15 rfl (j := 0) rfl <| x_bipush (v := (60 : Int32)) hC dX3_init_16 (by decide) <| ?_
  refine x_icmp_ge (tgt := 49) hC dX3_init_18 (by decide) (fun c => absurd c (by decide)) (fun _ => ?_)
  refine x_aload_n hC dX3_init_21 rfl (j := 1) rfl <| ?_
  refine x_getR (q := 2) (k := 0) (N := 1) hC dX3_init_22 wfl_X3_9 (by decide) (by decide) (by decide) (by decide +kernel) (by decide) (by decide +kernel) ?_
  refine x_bipush (v := (72 : Int32)) hC dX3_init_25 (by decide) <| x_iload_n hC dX3_init_27 rfl (j := 0) rfl <| x_iadd hC dX3_init_28 <| ?_
  show xV G l mM_X3_init K 29 [(1, .int (54 : Int32)), (0, .ref (xad G 1))] [.int (126 : Int32), .ref (xad G 2)] q112
  refine x_bipush (v := (8 : Int32)) hC dX3_init_29 (by decide) <| ?_
  refine x_iast (N := 194) hC dX3_init_31 (by decide) (by decide +kernel) (by decide) ?_
  show xV G l mM_X3_init K 32 [(1, .int (54 : Int32)), (0, .ref (xad G 1))] [] q113
  refine x_aload_n hC dX3_init_32 rfl (j := 1) rfl <| ?_
  refine x_getR (q := 2) (k := 0) (N := 1) hC dX3_init_33 wfl_X3_9 (by decide) (by decide) (by decide) (by decide +kernel) (by decide) (by decide +kernel) ?_
  refine x_sipush (v := (132 : Int32)) hC dX3_init_36 (by decide) <| x_iload_n hC dX3_init_39 rfl (j := 0) rfl <| x_iadd hC dX3_init_40 <| ?_
  show xV G l mM_X3_init K 41 [(1, .int (54 : Int32)), (0, .ref (xad G 1))] [.int (186 : Int32), .ref (xad G 2)] q113
  refine x_iconst (v := (3 : Int32)) hC dX3_init_41 (by decide) <| ?_
  refine x_iast (N := 194) hC dX3_init_42 (by decide) (by decide +kernel) (by decide) ?_
  show xV G l mM_X3_init K 43 [(1, .int (54 : Int32)), (0, .ref (xad G 1))] [] q114
  refine x_iinc hC dX3_init_43 (j := 0) (v := (55 : Int32)) rfl (by decide) (by decide) rfl <| x_goto (tgt := 15) hC dX3_init_46 (by decide) <| x_iload_n hC dX3_init_15 rfl (j := 0) rfl <| x_bipush (v := (60 : Int32)) hC dX3_init_16 (by decide) <| ?_
  refine x_icmp_ge (tgt := 49) hC dX3_init_18 (by decide) (fun c => absurd c (by decide)) (fun _ => ?_)
  refine x_aload_n hC dX3_init_21 rfl (j := 1) rfl <| ?_
  refine x_getR (q := 2) (k := 0) (N := 1) hC dX3_init_22 wfl_X3_9 (by decide) (by decide) (by decide) (by decide +kernel) (by decide) (by decide +kernel) ?_
  refine x_bipush (v := (72 : Int32)) hC dX3_init_25 (by decide) <| x_iload_n hC dX3_init_27 rfl (j := 0) rfl <| x_iadd hC dX3_init_28 <| ?_
  show xV G l mM_X3_init K 29 [(1, .int (55 : Int32)), (0, .ref (xad G 1))] [.int (127 : Int32), .ref (xad G 2)] q114
  refine x_bipush (v := (8 : Int32)) hC dX3_init_29 (by decide) <| ?_
  refine x_iast (N := 194) hC dX3_init_31 (by decide) (by decide +kernel) (by decide) ?_
  show xV G l mM_X3_init K 32 [(1, .int (55 : Int32)), (0, .ref (xad G 1))] [] q115
  refine x_aload_n hC dX3_init_32 rfl (j := 1) rfl <| ?_
  refine x_getR (q := 2) (k := 0) (N := 1) hC dX3_init_33 wfl_X3_9 (by decide) (by decide) (by decide) (by decide +kernel) (by decide) (by decide +kernel) ?_
  refine x_sipush (v := (132 : Int32)) hC dX3_init_36 (by decide) <| x_iload_n hC dX3_init_39 rfl (j := 0) rfl <| x_iadd hC dX3_init_40 <| ?_
  show xV G l mM_X3_init K 41 [(1, .int (55 : Int32)), (0, .ref (xad G 1))] [.int (187 : Int32), .ref (xad G 2)] q115
  refine x_iconst (v := (3 : Int32)) hC dX3_init_41 (by decide) <| ?_
  refine x_iast (N := 194) hC dX3_init_42 (by decide) (by decide +kernel) (by decide) ?_
  show xV G l mM_X3_init K 43 [(1, .int (55 : Int32)), (0, .ref (xad G 1))] [] q116
  refine x_iinc hC dX3_init_43 (j := 0) (v := (56 : Int32)) rfl (by decide) (by decide) rfl <| x_goto (tgt := 15) hC dX3_init_46 (by decide) <| x_iload_n hC dX3_init_15 rfl (j := 0) rfl <| x_bipush (v := (60 : Int32)) hC dX3_init_16 (by decide) <| ?_
  refine x_icmp_ge (tgt := 49) hC dX3_init_18 (by decide) (fun c => absurd c (by decide)) (fun _ => ?_)
  refine x_aload_n hC dX3_init_21 rfl (j := 1) rfl <| ?_
  refine x_getR (q := 2) (k := 0) (N := 1) hC dX3_init_22 wfl_X3_9 (by decide) (by decide) (by decide) (by decide +kernel) (by decide) (by decide +kernel) ?_
  refine x_bipush (v := (72 : Int32)) hC dX3_init_25 (by decide) <| x_iload_n hC dX3_init_27 rfl (j := 0) rfl <| x_iadd hC dX3_init_28 <| ?_
  show xV G l mM_X3_init K 29 [(1, .int (56 : Int32)), (0, .ref (xad G 1))] [.int (128 : Int32), .ref (xad G 2)] q116
  refine x_bipush (v := (8 : Int32)) hC dX3_init_29 (by decide) <| ?_
  refine x_iast (N := 194) hC dX3_init_31 (by decide) (by decide +kernel) (by decide) ?_
  show xV G l mM_X3_init K 32 [(1, .int (56 : Int32)), (0, .ref (xad G 1))] [] q117
  refine x_aload_n hC dX3_init_32 rfl (j := 1) rfl <| ?_
  refine x_getR (q := 2) (k := 0) (N := 1) hC dX3_init_33 wfl_X3_9 (by decide) (by decide) (by decide) (by decide +kernel) (by decide) (by decide +kernel) ?_
  refine x_sipush (v := (132 : Int32)) hC dX3_init_36 (by decide) <| x_iload_n hC dX3_init_39 rfl (j := 0) rfl <| x_iadd hC dX3_init_40 <| ?_
  show xV G l mM_X3_init K 41 [(1, .int (56 : Int32)), (0, .ref (xad G 1))] [.int (188 : Int32), .ref (xad G 2)] q117
  refine x_iconst (v := (3 : Int32)) hC dX3_init_41 (by decide) <| ?_
  refine x_iast (N := 194) hC dX3_init_42 (by decide) (by decide +kernel) (by decide) ?_
  show xV G l mM_X3_init K 43 [(1, .int (56 : Int32)), (0, .ref (xad G 1))] [] q118
  refine x_iinc hC dX3_init_43 (j := 0) (v := (57 : Int32)) rfl (by decide) (by decide) rfl <| x_goto (tgt := 15) hC dX3_init_46 (by decide) <| x_iload_n hC dX3_init_15 rfl (j := 0) rfl <| x_bipush (v := (60 : Int32)) hC dX3_init_16 (by decide) <| ?_
  refine x_icmp_ge (tgt := 49) hC dX3_init_18 (by decide) (fun c => absurd c (by decide)) (fun _ => ?_)
  refine x_aload_n hC dX3_init_21 rfl (j := 1) rfl <| ?_
  refine x_getR (q := 2) (k := 0) (N := 1) hC dX3_init_22 wfl_X3_9 (by decide) (by decide) (by decide) (by decide +kernel) (by decide) (by decide +kernel) ?_
  refine x_bipush (v := (72 : Int32)) hC dX3_init_25 (by decide) <| x_iload_n hC dX3_init_27 rfl (j := 0) rfl <| x_iadd hC dX3_init_28 <| ?_
  show xV G l mM_X3_init K 29 [(1, .int (57 : Int32)), (0, .ref (xad G 1))] [.int (129 : Int32), .ref (xad G 2)] q118
  refine x_bipush (v := (8 : Int32)) hC dX3_init_29 (by decide) <| ?_
  refine x_iast (N := 194) hC dX3_init_31 (by decide) (by decide +kernel) (by decide) ?_
  show xV G l mM_X3_init K 32 [(1, .int (57 : Int32)), (0, .ref (xad G 1))] [] q119
  refine x_aload_n hC dX3_init_32 rfl (j := 1) rfl <| ?_
  refine x_getR (q := 2) (k := 0) (N := 1) hC dX3_init_33 wfl_X3_9 (by decide) (by decide) (by decide) (by decide +kernel) (by decide) (by decide +kernel) ?_
  refine x_sipush (v := (132 : Int32)) hC dX3_init_36 (by decide) <| x_iload_n hC dX3_init_39 rfl (j := 0) rfl <| x_iadd hC dX3_init_40 <| ?_
  show xV G l mM_X3_init K 41 [(1, .int (57 : Int32)), (0, .ref (xad G 1))] [.int (189 : Int32), .ref (xad G 2)] q119
  refine x_iconst (v := (3 : Int32)) hC dX3_init_41 (by decide) <| ?_
  refine x_iast (N := 194) hC dX3_init_42 (by decide) (by decide +kernel) (by decide) ?_
  show xV G l mM_X3_init K 43 [(1, .int (57 : Int32)), (0, .ref (xad G 1))] [] q120
  refine x_iinc hC dX3_init_43 (j := 0) (v := (58 : Int32)) rfl (by decide) (by decide) rfl <| x_goto (tgt := 15) hC dX3_init_46 (by decide) <| x_iload_n hC dX3_init_15 rfl (j := 0) rfl <| x_bipush (v := (60 : Int32)) hC dX3_init_16 (by decide) <| ?_
  refine x_icmp_ge (tgt := 49) hC dX3_init_18 (by decide) (fun c => absurd c (by decide)) (fun _ => ?_)
  refine x_aload_n hC dX3_init_21 rfl (j := 1) rfl <| ?_
  refine x_getR (q := 2) (k := 0) (N := 1) hC dX3_init_22 wfl_X3_9 (by decide) (by decide) (by decide) (by decide +kernel) (by decide) (by decide +kernel) ?_
  refine x_bipush (v := (72 : Int32)) hC dX3_init_25 (by decide) <| x_iload_n hC dX3_init_27 rfl (j := 0) rfl <| x_iadd hC dX3_init_28 <| ?_
  show xV G l mM_X3_init K 29 [(1, .int (58 : Int32)), (0, .ref (xad G 1))] [.int (130 : Int32), .ref (xad G 2)] q120
  refine x_bipush (v := (8 : Int32)) hC dX3_init_29 (by decide) <| ?_
  refine x_iast (N := 194) hC dX3_init_31 (by decide) (by decide +kernel) (by decide) ?_
  show xV G l mM_X3_init K 32 [(1, .int (58 : Int32)), (0, .ref (xad G 1))] [] q121
  refine x_aload_n hC dX3_init_32 rfl (j := 1) rfl <| ?_
  refine x_getR (q := 2) (k := 0) (N := 1) hC dX3_init_33 wfl_X3_9 (by decide) (by decide) (by decide) (by decide +kernel) (by decide) (by decide +kernel) ?_
  refine x_sipush (v := (132 : Int32)) hC dX3_init_36 (by decide) <| x_iload_n hC dX3_init_39 rfl (j := 0) rfl <| x_iadd hC dX3_init_40 <| ?_
  show xV G l mM_X3_init K 41 [(1, .int (58 : Int32)), (0, .ref (xad G 1))] [.int (190 : Int32), .ref (xad G 2)] q121
  refine x_iconst (v := (3 : Int32)) hC dX3_init_41 (by decide) <| ?_
  refine x_iast (N := 194) hC dX3_init_42 (by decide) (by decide +kernel) (by decide) ?_
  show xV G l mM_X3_init K 43 [(1, .int (58 : Int32)), (0, .ref (xad G 1))] [] q122
  refine x_iinc hC dX3_init_43 (j := 0) (v := (59 : Int32)) rfl (by decide) (by decide) rfl <| x_goto (tgt := 15) hC dX3_init_46 (by decide) <| x_iload_n hC dX3_init_15 rfl (j := 0) rfl <| x_bipush (v := (60 : Int32)) hC dX3_init_16 (by decide) <| ?_
  refine x_icmp_ge (tgt := 49) hC dX3_init_18 (by decide) (fun c => absurd c (by decide)) (fun _ => ?_)
  refine x_aload_n hC dX3_init_21 rfl (j := 1) rfl <| ?_
  refine x_getR (q := 2) (k := 0) (N := 1) hC dX3_init_22 wfl_X3_9 (by decide) (by decide) (by decide) (by decide +kernel) (by decide) (by decide +kernel) ?_
  refine x_bipush (v := (72 : Int32)) hC dX3_init_25 (by decide) <| x_iload_n hC dX3_init_27 rfl (j := 0) rfl <| x_iadd hC dX3_init_28 <| ?_
  show xV G l mM_X3_init K 29 [(1, .int (59 : Int32)), (0, .ref (xad G 1))] [.int (131 : Int32), .ref (xad G 2)] q122
  refine x_bipush (v := (8 : Int32)) hC dX3_init_29 (by decide) <| ?_
  refine x_iast (N := 194) hC dX3_init_31 (by decide) (by decide +kernel) (by decide) ?_
  show xV G l mM_X3_init K 32 [(1, .int (59 : Int32)), (0, .ref (xad G 1))] [] q123
  refine x_aload_n hC dX3_init_32 rfl (j := 1) rfl <| ?_
  refine x_getR (q := 2) (k := 0) (N := 1) hC dX3_init_33 wfl_X3_9 (by decide) (by decide) (by decide) (by decide +kernel) (by decide) (by decide +kernel) ?_
  refine x_sipush (v := (132 : Int32)) hC dX3_init_36 (by decide) <| x_iload_n hC dX3_init_39 rfl (j := 0) rfl <| x_iadd hC dX3_init_40 <| ?_
  show xV G l mM_X3_init K 41 [(1, .int (59 : Int32)), (0, .ref (xad G 1))] [.int (191 : Int32), .ref (xad G 2)] q123
  refine x_iconst (v := (3 : Int32)) hC dX3_init_41 (by decide) <| ?_
  refine x_iast (N := 194) hC dX3_init_42 (by decide) (by decide +kernel) (by decide) ?_
  show xV G l mM_X3_init K 43 [(1, .int (59 : Int32)), (0, .ref (xad G 1))] [] q124
  refine x_iinc hC dX3_init_43 (j := 0) (v := (60 : Int32)) rfl (by decide) (by decide) rfl <| x_goto (tgt := 15) hC dX3_init_46 (by decide) <| x_iload_n hC dX3_init_15 rfl (j := 0) rfl <| x_bipush (v := (60 : Int32)) hC dX3_init_16 (by decide) <| ?_
  refine x_icmp_ge (tgt := 49) hC dX3_init_18 (by decide) (fun _ => ?_) (fun c => absurd (by decide) c)
  refine x_aload_n hC dX3_init_49 rfl (j := 1) rfl <| ?_
  refine x_getR (q := 2) (k := 0) (N := 1) hC dX3_init_50 wfl_X3_9 (by decide) (by decide) (by decide) (by decide +kernel) (by decide) (by decide +kernel) ?_
  refine x_sipush (v := (192 : Int32)) hC dX3_init_53 (by decide) <| x_bipush (v := (6 : Int32)) hC dX3_init_56 (by decide) <| ?_
  refine x_iast (N := 194) hC dX3_init_58 (by decide) (by decide +kernel) (by decide) ?_
  show xV G l mM_X3_init K 59 [(1, .int (60 : Int32)), (0, .ref (xad G 1))] [] q125
  refine x_aload_n hC dX3_init_59 rfl (j := 1) rfl <| ?_
  refine x_getR (q := 2) (k := 0) (N := 1) hC dX3_init_60 wfl_X3_9 (by decide) (by decide) (by decide) (by decide +kernel) (by decide) (by decide +kernel) ?_
  refine x_sipush (v := (193 : Int32)) hC dX3_init_63 (by decide) <| x_iconst (v := (2 : Int32)) hC dX3_init_66 (by decide) <| ?_
  refine x_iast (N := 194) hC dX3_init_67 (by decide) (by decide +kernel) (by decide) ?_
  show xV G l mM_X3_init K 68 [(1, .int (60 : Int32)), (0, .ref (xad G 1))] [] q126
  exact x_vret (rest := []) hC hE rfl dX3_init_68
set_option maxRecDepth 100000 in
set_option maxHeartbeats 4000000 in
theorem CT_3 {G : xG} {l : Launch} : xC G l mM_X0_init 1 [.ref (xad G 3)] q128 none q129 := by
  refine xC_of (by decide) rfl (by decide +kernel) (Nat.le_of_ble_eq_true rfl) (fun K hC hE hR _ => ?_)
  refine x_aload_n hC dX0_init_0 rfl (j := 0) rfl <| ?_
  refine x_objInit hC hR (by decide) dX0_init_1 wml_X0_3 (xmt_1 21 (by decide +kernel) (by decide +kernel)) (xmt_1 22 rfl rfl) (Nat.le_of_ble_eq_true rfl) ?_
  show xV G l mM_X0_init K 4 [(0, .ref (xad G 3))] [] q128
  refine x_aload_n hC dX0_init_4 rfl (j := 0) rfl <| x_bipush (v := (50 : Int32)) hC dX0_init_5 (by decide) <| ?_
  refine x_putI (k := 1) (N := 4) hC dX0_init_7 wfl_X0_9 (by decide) (by decide) (by decide) (by decide +kernel) (by decide) (by decide) ?_
  show xV G l mM_X0_init K 10 [(0, .ref (xad G 3))] [] q129
  exact x_vret (rest := []) hC hE rfl dX0_init_10
set_option maxRecDepth 100000 in
set_option maxHeartbeats 4000000 in
theorem CT_4 {G : xG} {l : Launch} : xC G l mM_X0_init 1 [.ref (xad G 4)] q131 none q132 := by
  refine xC_of (by decide) rfl (by decide +kernel) (Nat.le_of_ble_eq_true rfl) (fun K hC hE hR _ => ?_)
  refine x_aload_n hC dX0_init_0 rfl (j := 0) rfl <| ?_
  refine x_objInit hC hR (by decide) dX0_init_1 wml_X0_3 (xmt_1 21 (by decide +kernel) (by decide +kernel)) (xmt_1 22 rfl rfl) (Nat.le_of_ble_eq_true rfl) ?_
  show xV G l mM_X0_init K 4 [(0, .ref (xad G 4))] [] q131
  refine x_aload_n hC dX0_init_4 rfl (j := 0) rfl <| x_bipush (v := (50 : Int32)) hC dX0_init_5 (by decide) <| ?_
  refine x_putI (k := 1) (N := 4) hC dX0_init_7 wfl_X0_9 (by decide) (by decide) (by decide) (by decide +kernel) (by decide) (by decide) ?_
  show xV G l mM_X0_init K 10 [(0, .ref (xad G 4))] [] q132
  exact x_vret (rest := []) hC hE rfl dX0_init_10
set_option maxRecDepth 100000 in
set_option maxHeartbeats 4000000 in
theorem CT_5 {G : xG} {l : Launch} : xC G l mM_X0_init 1 [.ref (xad G 5)] q134 none q135 := by
  refine xC_of (by decide) rfl (by decide +kernel) (Nat.le_of_ble_eq_true rfl) (fun K hC hE hR _ => ?_)
  refine x_aload_n hC dX0_init_0 rfl (j := 0) rfl <| ?_
  refine x_objInit hC hR (by decide) dX0_init_1 wml_X0_3 (xmt_1 21 (by decide +kernel) (by decide +kernel)) (xmt_1 22 rfl rfl) (Nat.le_of_ble_eq_true rfl) ?_
  show xV G l mM_X0_init K 4 [(0, .ref (xad G 5))] [] q134
  refine x_aload_n hC dX0_init_4 rfl (j := 0) rfl <| x_bipush (v := (50 : Int32)) hC dX0_init_5 (by decide) <| ?_
  refine x_putI (k := 1) (N := 4) hC dX0_init_7 wfl_X0_9 (by decide) (by decide) (by decide) (by decide +kernel) (by decide) (by decide) ?_
  show xV G l mM_X0_init K 10 [(0, .ref (xad G 5))] [] q135
  exact x_vret (rest := []) hC hE rfl dX0_init_10
set_option maxRecDepth 100000 in
set_option maxHeartbeats 4000000 in
theorem CT_6 {G : xG} {l : Launch} : xC G l mM_X2_init 1 [.ref (xad G 8)] q141 none q149 := by
  refine xC_of (by decide) rfl (by decide +kernel) (Nat.le_of_ble_eq_true rfl) (fun K hC hE hR _ => ?_)
  refine x_aload_n hC dX2_init_0 rfl (j := 0) rfl <| ?_
  refine x_objInit hC hR (by decide) dX2_init_1 wml_X2_3 (xmt_1 21 (by decide +kernel) (by decide +kernel)) (xmt_1 22 rfl rfl) (Nat.le_of_ble_eq_true rfl) ?_
  show xV G l mM_X2_init K 4 [(0, .ref (xad G 8))] [] q141
  refine x_aload_n hC dX2_init_4 rfl (j := 0) rfl <| x_bipush (v := (120 : Int32)) hC dX2_init_5 (by decide) <| ?_
  refine x_newa (t := 0) (N := 120) (ty := .int) hC dX2_init_7 rfl rfl (fun h => h) (by decide +kernel) (xmt_1 33 (by decide +kernel) (by decide +kernel)) (by decide) (by decide) (by decide) (fun _ => rfl) (by decide) (by decide +kernel) (by rw [← hE.2.1]; exact (by decide +kernel : q141.1 + 1 ≤ q149.1)) (by rw [← hE.2.2]; exact (by decide +kernel : xSz (q141.1 + 1) ≤ xSz q149.1)) ?_
  show xV G l mM_X2_init K 9 [(0, .ref (xad G 8))] [.ref (xad G 9), .ref (xad G 8)] q142
  refine x_putFR (k := 0) (N := 10) hC dX2_init_9 wfl_X2_11 (by decide) (by decide) (by decide) (by decide +kernel) (by decide) rfl rfl (by decide) ?_
  show xV G l mM_X2_init K 12 [(0, .ref (xad G 8))] [] q143
  refine x_aload_n hC dX2_init_12 rfl (j := 0) rfl <| x_bipush (v := (121 : Int32)) hC dX2_init_13 (by decide) <| ?_
  refine x_newa (t := 0) (N := 121) (ty := .int) hC dX2_init_15 rfl rfl (fun h => h) (by decide +kernel) (xmt_1 33 (by decide +kernel) (by decide +kernel)) (by decide) (by decide) (by decide) (fun _ => rfl) (by decide) (by decide +kernel) (by rw [← hE.2.1]; exact (by decide +kernel : q143.1 + 1 ≤ q149.1)) (by rw [← hE.2.2]; exact (by decide +kernel : xSz (q143.1 + 1) ≤ xSz q149.1)) ?_
  show xV G l mM_X2_init K 17 [(0, .ref (xad G 8))] [.ref (xad G 10), .ref (xad G 8)] q144
  refine x_putFR (k := 1) (N := 10) hC dX2_init_17 wfl_X2_15 (by decide) (by decide) (by decide) (by decide +kernel) (by decide) rfl rfl (by decide) ?_
  show xV G l mM_X2_init K 20 [(0, .ref (xad G 8))] [] q145
  refine x_aload_n hC dX2_init_20 rfl (j := 0) rfl <| x_bipush (v := (121 : Int32)) hC dX2_init_21 (by decide) <| ?_
  refine x_newa (t := 0) (N := 121) (ty := .int) hC dX2_init_23 rfl rfl (fun h => h) (by decide +kernel) (xmt_1 33 (by decide +kernel) (by decide +kernel)) (by decide) (by decide) (by decide) (fun _ => rfl) (by decide) (by decide +kernel) (by rw [← hE.2.1]; exact (by decide +kernel : q145.1 + 1 ≤ q149.1)) (by rw [← hE.2.2]; exact (by decide +kernel : xSz (q145.1 + 1) ≤ xSz q149.1)) ?_
  show xV G l mM_X2_init K 25 [(0, .ref (xad G 8))] [.ref (xad G 11), .ref (xad G 8)] q146
  refine x_putFR (k := 2) (N := 10) hC dX2_init_25 wfl_X2_18 (by decide) (by decide) (by decide) (by decide +kernel) (by decide) rfl rfl (by decide) ?_
  show xV G l mM_X2_init K 28 [(0, .ref (xad G 8))] [] q147
  refine x_aload_n hC dX2_init_28 rfl (j := 0) rfl <| x_bipush (v := (121 : Int32)) hC dX2_init_29 (by decide) <| ?_
  refine x_newa (t := 0) (N := 121) (ty := .int) hC dX2_init_31 rfl rfl (fun h => h) (by decide +kernel) (xmt_1 33 (by decide +kernel) (by decide +kernel)) (by decide) (by decide) (by decide) (fun _ => rfl) (by decide) (by decide +kernel) (by rw [← hE.2.1]; exact (by decide +kernel : q147.1 + 1 ≤ q149.1)) (by rw [← hE.2.2]; exact (by decide +kernel : xSz (q147.1 + 1) ≤ xSz q149.1)) ?_
  show xV G l mM_X2_init K 33 [(0, .ref (xad G 8))] [.ref (xad G 12), .ref (xad G 8)] q148
  refine x_putFR (k := 3) (N := 10) hC dX2_init_33 wfl_X2_21 (by decide) (by decide) (by decide) (by decide +kernel) (by decide) rfl rfl (by decide) ?_
  show xV G l mM_X2_init K 36 [(0, .ref (xad G 8))] [] q149
  exact x_vret (rest := []) hC hE rfl dX2_init_36
set_option maxRecDepth 100000 in
set_option maxHeartbeats 4000000 in
theorem CT_7 {G : xG} {l : Launch} : xC G l mM_X6_init 1 [.ref (xad G 13)] q151 none q161 := by
  refine xC_of (by decide) rfl (by decide +kernel) (Nat.le_of_ble_eq_true rfl) (fun K hC hE hR _ => ?_)
  refine x_aload_n hC dX6_init_0 rfl (j := 0) rfl <| ?_
  refine x_objInit hC hR (by decide) dX6_init_1 wml_X6_1 (xmt_1 21 (by decide +kernel) (by decide +kernel)) (xmt_1 22 rfl rfl) (Nat.le_of_ble_eq_true rfl) ?_
  show xV G l mM_X6_init K 4 [(0, .ref (xad G 13))] [] q151
  refine x_aload_n hC dX6_init_4 rfl (j := 0) rfl <| x_bipush (v := (36 : Int32)) hC dX6_init_5 (by decide) <| ?_
  refine x_newa (t := 0) (N := 36) (ty := .int) hC dX6_init_7 rfl rfl (fun h => h) (by decide +kernel) (xmt_1 33 (by decide +kernel) (by decide +kernel)) (by decide) (by decide) (by decide) (fun _ => rfl) (by decide) (by decide +kernel) (by rw [← hE.2.1]; exact (by decide +kernel : q151.1 + 1 ≤ q161.1)) (by rw [← hE.2.2]; exact (by decide +kernel : xSz (q151.1 + 1) ≤ xSz q161.1)) ?_
  show xV G l mM_X6_init K 9 [(0, .ref (xad G 13))] [.ref (xad G 14), .ref (xad G 13)] q152
  refine x_putFR (k := 0) (N := 8) hC dX6_init_9 wfl_X6_9 (by decide) (by decide) (by decide) (by decide +kernel) (by decide) rfl rfl (by decide) ?_
  show xV G l mM_X6_init K 12 [(0, .ref (xad G 13))] [] q153
  refine x_aload_n hC dX6_init_12 rfl (j := 0) rfl <| x_iconst (v := (5 : Int32)) hC dX6_init_13 (by decide) <| ?_
  refine x_newa (t := 0) (N := 5) (ty := .int) hC dX6_init_14 rfl rfl (fun h => h) (by decide +kernel) (xmt_1 33 (by decide +kernel) (by decide +kernel)) (by decide) (by decide) (by decide) (fun _ => rfl) (by decide) (by decide +kernel) (by rw [← hE.2.1]; exact (by decide +kernel : q153.1 + 1 ≤ q161.1)) (by rw [← hE.2.2]; exact (by decide +kernel : xSz (q153.1 + 1) ≤ xSz q161.1)) ?_
  show xV G l mM_X6_init K 16 [(0, .ref (xad G 13))] [.ref (xad G 15), .ref (xad G 13)] q154
  refine x_putFR (k := 1) (N := 8) hC dX6_init_16 wfl_X6_15 (by decide) (by decide) (by decide) (by decide +kernel) (by decide) rfl rfl (by decide) ?_
  show xV G l mM_X6_init K 19 [(0, .ref (xad G 13))] [] q155
  refine x_aload_n hC dX6_init_19 rfl (j := 0) rfl <| x_iconst (v := (5 : Int32)) hC dX6_init_20 (by decide) <| ?_
  refine x_newa (t := 0) (N := 5) (ty := .int) hC dX6_init_21 rfl rfl (fun h => h) (by decide +kernel) (xmt_1 33 (by decide +kernel) (by decide +kernel)) (by decide) (by decide) (by decide) (fun _ => rfl) (by decide) (by decide +kernel) (by rw [← hE.2.1]; exact (by decide +kernel : q155.1 + 1 ≤ q161.1)) (by rw [← hE.2.2]; exact (by decide +kernel : xSz (q155.1 + 1) ≤ xSz q161.1)) ?_
  show xV G l mM_X6_init K 23 [(0, .ref (xad G 13))] [.ref (xad G 16), .ref (xad G 13)] q156
  refine x_putFR (k := 2) (N := 8) hC dX6_init_23 wfl_X6_18 (by decide) (by decide) (by decide) (by decide +kernel) (by decide) rfl rfl (by decide) ?_
  show xV G l mM_X6_init K 26 [(0, .ref (xad G 13))] [] q157
  refine x_aload_n hC dX6_init_26 rfl (j := 0) rfl <| x_bipush (v := (25 : Int32)) hC dX6_init_27 (by decide) <| ?_
  refine x_newa (t := 0) (N := 25) (ty := .int) hC dX6_init_29 rfl rfl (fun h => h) (by decide +kernel) (xmt_1 33 (by decide +kernel) (by decide +kernel)) (by decide) (by decide) (by decide) (fun _ => rfl) (by decide) (by decide +kernel) (by rw [← hE.2.1]; exact (by decide +kernel : q157.1 + 1 ≤ q161.1)) (by rw [← hE.2.2]; exact (by decide +kernel : xSz (q157.1 + 1) ≤ xSz q161.1)) ?_
  show xV G l mM_X6_init K 31 [(0, .ref (xad G 13))] [.ref (xad G 17), .ref (xad G 13)] q158
  refine x_putFR (k := 3) (N := 8) hC dX6_init_31 wfl_X6_21 (by decide) (by decide) (by decide) (by decide +kernel) (by decide) rfl rfl (by decide) ?_
  show xV G l mM_X6_init K 34 [(0, .ref (xad G 13))] [] q159
  refine x_aload_n hC dX6_init_34 rfl (j := 0) rfl <| x_sipush (v := (160 : Int32)) hC dX6_init_35 (by decide) <| ?_
  refine x_newa (t := 0) (N := 160) (ty := .int) hC dX6_init_38 rfl rfl (fun h => h) (by decide +kernel) (xmt_1 33 (by decide +kernel) (by decide +kernel)) (by decide) (by decide) (by decide) (fun _ => rfl) (by decide) (by decide +kernel) (by rw [← hE.2.1]; exact (by decide +kernel : q159.1 + 1 ≤ q161.1)) (by rw [← hE.2.2]; exact (by decide +kernel : xSz (q159.1 + 1) ≤ xSz q161.1)) ?_
  show xV G l mM_X6_init K 40 [(0, .ref (xad G 13))] [.ref (xad G 18), .ref (xad G 13)] q160
  refine x_putFR (k := 4) (N := 8) hC dX6_init_40 wfl_X6_24 (by decide) (by decide) (by decide) (by decide +kernel) (by decide) rfl rfl (by decide) ?_
  show xV G l mM_X6_init K 43 [(0, .ref (xad G 13))] [] q161
  exact x_vret (rest := []) hC hE rfl dX6_init_43
set_option maxRecDepth 100000 in
set_option maxHeartbeats 4000000 in
theorem CT_9 {G : xG} {l : Launch} : xC G l mM_X0_init 1 [.ref (xad G 22)] q168 none q169 := by
  refine xC_of (by decide) rfl (by decide +kernel) (Nat.le_of_ble_eq_true rfl) (fun K hC hE hR _ => ?_)
  refine x_aload_n hC dX0_init_0 rfl (j := 0) rfl <| ?_
  refine x_objInit hC hR (by decide) dX0_init_1 wml_X0_3 (xmt_1 21 (by decide +kernel) (by decide +kernel)) (xmt_1 22 rfl rfl) (Nat.le_of_ble_eq_true rfl) ?_
  show xV G l mM_X0_init K 4 [(0, .ref (xad G 22))] [] q168
  refine x_aload_n hC dX0_init_4 rfl (j := 0) rfl <| x_bipush (v := (50 : Int32)) hC dX0_init_5 (by decide) <| ?_
  refine x_putI (k := 1) (N := 4) hC dX0_init_7 wfl_X0_9 (by decide) (by decide) (by decide) (by decide +kernel) (by decide) (by decide) ?_
  show xV G l mM_X0_init K 10 [(0, .ref (xad G 22))] [] q169
  exact x_vret (rest := []) hC hE rfl dX0_init_10
set_option maxRecDepth 100000 in
set_option maxHeartbeats 4000000 in
theorem CT_8 {G : xG} {l : Launch} : xC G l mM_X4_init 2 [.ref (xad G 19)] q163 none q170 := by
  refine xC_of (by decide) rfl (by decide +kernel) (Nat.le_of_ble_eq_true rfl) (fun K hC hE hR _ => ?_)
  refine x_aload_n hC dX4_init_0 rfl (j := 0) rfl <| ?_
  refine x_objInit hC hR (by decide) dX4_init_1 wml_X4_3 (xmt_1 21 (by decide +kernel) (by decide +kernel)) (xmt_1 22 rfl rfl) (Nat.le_of_ble_eq_true rfl) ?_
  show xV G l mM_X4_init K 4 [(0, .ref (xad G 19))] [] q163
  refine x_aload_n hC dX4_init_4 rfl (j := 0) rfl <| x_sipush (v := (360 : Int32)) hC dX4_init_5 (by decide) <| ?_
  refine x_newa (t := 0) (N := 360) (ty := .int) hC dX4_init_8 rfl rfl (fun h => h) (by decide +kernel) (xmt_1 33 (by decide +kernel) (by decide +kernel)) (by decide) (by decide) (by decide) (fun _ => rfl) (by decide) (by decide +kernel) (by rw [← hE.2.1]; exact (by decide +kernel : q163.1 + 1 ≤ q170.1)) (by rw [← hE.2.2]; exact (by decide +kernel : xSz (q163.1 + 1) ≤ xSz q170.1)) ?_
  show xV G l mM_X4_init K 10 [(0, .ref (xad G 19))] [.ref (xad G 20), .ref (xad G 19)] q164
  refine x_putFR (k := 0) (N := 5) hC dX4_init_10 wfl_X4_13 (by decide) (by decide) (by decide) (by decide +kernel) (by decide) rfl rfl (by decide) ?_
  show xV G l mM_X4_init K 13 [(0, .ref (xad G 19))] [] q165
  refine x_aload_n hC dX4_init_13 rfl (j := 0) rfl <| x_sipush (v := (360 : Int32)) hC dX4_init_14 (by decide) <| ?_
  refine x_newa (t := 0) (N := 360) (ty := .int) hC dX4_init_17 rfl rfl (fun h => h) (by decide +kernel) (xmt_1 33 (by decide +kernel) (by decide +kernel)) (by decide) (by decide) (by decide) (fun _ => rfl) (by decide) (by decide +kernel) (by rw [← hE.2.1]; exact (by decide +kernel : q165.1 + 1 ≤ q170.1)) (by rw [← hE.2.2]; exact (by decide +kernel : xSz (q165.1 + 1) ≤ xSz q170.1)) ?_
  show xV G l mM_X4_init K 19 [(0, .ref (xad G 19))] [.ref (xad G 21), .ref (xad G 19)] q166
  refine x_putFR (k := 1) (N := 5) hC dX4_init_19 wfl_X4_17 (by decide) (by decide) (by decide) (by decide +kernel) (by decide) rfl rfl (by decide) ?_
  show xV G l mM_X4_init K 22 [(0, .ref (xad G 19))] [] q167
  refine x_aload_n hC dX4_init_22 rfl (j := 0) rfl <| ?_
  refine x_new (q := (RX0, TX0, 4)) (ci := 0) hC dX4_init_23 (by decide) rfl (by decide +kernel) wcl_X4_20 (xmt_1 35 (by decide +kernel) (by decide +kernel)) (xmt_1 3 (by decide +kernel) (by decide +kernel)) (by decide +kernel) (by rw [← hE.2.1]; exact (by decide +kernel : q167.1 + 1 ≤ q170.1)) (by rw [← hE.2.2]; exact (by decide +kernel : xSz (q167.1 + 1) ≤ xSz q170.1)) ?_
  show xV G l mM_X4_init K 26 [(0, .ref (xad G 19))] [.ref (xad G 22), .ref (xad G 19)] q168
  refine x_dup hC dX4_init_26 rfl <| ?_
  refine x_callI0 (rest := [.ref (xad G 22), .ref (xad G 19)]) hC hR dX4_init_27 mK_X0_init wml_X4_22 (CT_9) (by decide) rfl (Nat.le_of_ble_eq_true rfl) (by rw [← hE.2.1]; exact (by decide +kernel : q169.1 ≤ q170.1)) (by rw [← hE.2.2]; exact (by decide +kernel : xSz q169.1 ≤ xSz q170.1)) rfl rfl ?_
  show xV G l mM_X4_init K 30 [(0, .ref (xad G 19))] [.ref (xad G 22), .ref (xad G 19)] q169
  refine x_putFR (k := 2) (N := 5) hC dX4_init_30 wfl_X4_23 (by decide) (by decide) (by decide) (by decide +kernel) (by decide) rfl rfl (by decide) ?_
  show xV G l mM_X4_init K 33 [(0, .ref (xad G 19))] [] q170
  exact x_vret (rest := []) hC hE rfl dX4_init_33
set_option maxRecDepth 100000 in
set_option maxHeartbeats 4000000 in
theorem CT_10 {G : xG} {l : Launch} : xC G l mM_X1_init 1 [.ref (xad G 23)] q172 none q178 := by
  refine xC_of (by decide) rfl (by decide +kernel) (Nat.le_of_ble_eq_true rfl) (fun K hC hE hR _ => ?_)
  refine x_aload_n hC dX1_init_0 rfl (j := 0) rfl <| ?_
  refine x_objInit hC hR (by decide) dX1_init_1 wml_X1_1 (xmt_1 21 (by decide +kernel) (by decide +kernel)) (xmt_1 22 rfl rfl) (Nat.le_of_ble_eq_true rfl) ?_
  show xV G l mM_X1_init K 4 [(0, .ref (xad G 23))] [] q172
  refine x_aload_n hC dX1_init_4 rfl (j := 0) rfl <| x_bipush (v := (40 : Int32)) hC dX1_init_5 (by decide) <| ?_
  refine x_newa (t := 0) (N := 40) (ty := .int) hC dX1_init_7 rfl rfl (fun h => h) (by decide +kernel) (xmt_1 33 (by decide +kernel) (by decide +kernel)) (by decide) (by decide) (by decide) (fun _ => rfl) (by decide) (by decide +kernel) (by rw [← hE.2.1]; exact (by decide +kernel : q172.1 + 1 ≤ q178.1)) (by rw [← hE.2.2]; exact (by decide +kernel : xSz (q172.1 + 1) ≤ xSz q178.1)) ?_
  show xV G l mM_X1_init K 9 [(0, .ref (xad G 23))] [.ref (xad G 24), .ref (xad G 23)] q173
  refine x_putFR (k := 0) (N := 5) hC dX1_init_9 wfl_X1_9 (by decide) (by decide) (by decide) (by decide +kernel) (by decide) rfl rfl (by decide) ?_
  show xV G l mM_X1_init K 12 [(0, .ref (xad G 23))] [] q174
  refine x_aload_n hC dX1_init_12 rfl (j := 0) rfl <| x_bipush (v := (40 : Int32)) hC dX1_init_13 (by decide) <| ?_
  refine x_newa (t := 0) (N := 40) (ty := .int) hC dX1_init_15 rfl rfl (fun h => h) (by decide +kernel) (xmt_1 33 (by decide +kernel) (by decide +kernel)) (by decide) (by decide) (by decide) (fun _ => rfl) (by decide) (by decide +kernel) (by rw [← hE.2.1]; exact (by decide +kernel : q174.1 + 1 ≤ q178.1)) (by rw [← hE.2.2]; exact (by decide +kernel : xSz (q174.1 + 1) ≤ xSz q178.1)) ?_
  show xV G l mM_X1_init K 17 [(0, .ref (xad G 23))] [.ref (xad G 25), .ref (xad G 23)] q175
  refine x_putFR (k := 1) (N := 5) hC dX1_init_17 wfl_X1_13 (by decide) (by decide) (by decide) (by decide +kernel) (by decide) rfl rfl (by decide) ?_
  show xV G l mM_X1_init K 20 [(0, .ref (xad G 23))] [] q176
  refine x_aload_n hC dX1_init_20 rfl (j := 0) rfl <| x_bipush (v := (40 : Int32)) hC dX1_init_21 (by decide) <| ?_
  refine x_newa (t := 0) (N := 40) (ty := .int) hC dX1_init_23 rfl rfl (fun h => h) (by decide +kernel) (xmt_1 33 (by decide +kernel) (by decide +kernel)) (by decide) (by decide) (by decide) (fun _ => rfl) (by decide) (by decide +kernel) (by rw [← hE.2.1]; exact (by decide +kernel : q176.1 + 1 ≤ q178.1)) (by rw [← hE.2.2]; exact (by decide +kernel : xSz (q176.1 + 1) ≤ xSz q178.1)) ?_
  show xV G l mM_X1_init K 25 [(0, .ref (xad G 23))] [.ref (xad G 26), .ref (xad G 23)] q177
  refine x_putFR (k := 2) (N := 5) hC dX1_init_25 wfl_X1_16 (by decide) (by decide) (by decide) (by decide +kernel) (by decide) rfl rfl (by decide) ?_
  show xV G l mM_X1_init K 28 [(0, .ref (xad G 23))] [] q178
  exact x_vret (rest := []) hC hE rfl dX1_init_28
set_option maxRecDepth 100000 in
set_option maxHeartbeats 4000000 in
theorem CT_11 {G : xG} {l : Launch} : xC G l mM_X5_init 1 [.ref (xad G 28)] q182 none q184 := by
  refine xC_of (by decide) rfl (by decide +kernel) (Nat.le_of_ble_eq_true rfl) (fun K hC hE hR _ => ?_)
  refine x_aload_n hC dX5_init_0 rfl (j := 0) rfl <| ?_
  refine x_objInit hC hR (by decide) dX5_init_1 wml_X5_1 (xmt_1 21 (by decide +kernel) (by decide +kernel)) (xmt_1 22 rfl rfl) (Nat.le_of_ble_eq_true rfl) ?_
  show xV G l mM_X5_init K 4 [(0, .ref (xad G 28))] [] q182
  refine x_aload_n hC dX5_init_4 rfl (j := 0) rfl <| x_bipush (v := (60 : Int32)) hC dX5_init_5 (by decide) <| ?_
  refine x_newa (t := 3) (N := 60) (ty := .long) hC dX5_init_7 rfl rfl (fun h => h) (by decide +kernel) (xmt_1 213 (by decide +kernel) (by decide +kernel)) (by decide) (by decide) (by decide) (fun _ => rfl) (by decide) (by decide +kernel) (by rw [← hE.2.1]; exact (by decide +kernel : q182.1 + 1 ≤ q184.1)) (by rw [← hE.2.2]; exact (by decide +kernel : xSz (q182.1 + 1) ≤ xSz q184.1)) ?_
  show xV G l mM_X5_init K 9 [(0, .ref (xad G 28))] [.ref (xad G 29), .ref (xad G 28)] q183
  refine x_putFR (k := 0) (N := 5) hC dX5_init_9 wfl_X5_9 (by decide) (by decide) (by decide) (by decide +kernel) (by decide) rfl rfl (by decide) ?_
  show xV G l mM_X5_init K 12 [(0, .ref (xad G 28))] [] q184
  exact x_vret (rest := []) hC hE rfl dX5_init_12
set_option maxRecDepth 100000 in
set_option maxHeartbeats 4000000 in
theorem CT_12 {G : xG} {l : Launch} : xC G l mM_X5_init 1 [.ref (xad G 30)] q186 none q188 := by
  refine xC_of (by decide) rfl (by decide +kernel) (Nat.le_of_ble_eq_true rfl) (fun K hC hE hR _ => ?_)
  refine x_aload_n hC dX5_init_0 rfl (j := 0) rfl <| ?_
  refine x_objInit hC hR (by decide) dX5_init_1 wml_X5_1 (xmt_1 21 (by decide +kernel) (by decide +kernel)) (xmt_1 22 rfl rfl) (Nat.le_of_ble_eq_true rfl) ?_
  show xV G l mM_X5_init K 4 [(0, .ref (xad G 30))] [] q186
  refine x_aload_n hC dX5_init_4 rfl (j := 0) rfl <| x_bipush (v := (60 : Int32)) hC dX5_init_5 (by decide) <| ?_
  refine x_newa (t := 3) (N := 60) (ty := .long) hC dX5_init_7 rfl rfl (fun h => h) (by decide +kernel) (xmt_1 213 (by decide +kernel) (by decide +kernel)) (by decide) (by decide) (by decide) (fun _ => rfl) (by decide) (by decide +kernel) (by rw [← hE.2.1]; exact (by decide +kernel : q186.1 + 1 ≤ q188.1)) (by rw [← hE.2.2]; exact (by decide +kernel : xSz (q186.1 + 1) ≤ xSz q188.1)) ?_
  show xV G l mM_X5_init K 9 [(0, .ref (xad G 30))] [.ref (xad G 31), .ref (xad G 30)] q187
  refine x_putFR (k := 0) (N := 5) hC dX5_init_9 wfl_X5_9 (by decide) (by decide) (by decide) (by decide +kernel) (by decide) rfl rfl (by decide) ?_
  show xV G l mM_X5_init K 12 [(0, .ref (xad G 30))] [] q188
  exact x_vret (rest := []) hC hE rfl dX5_init_12
set_option maxRecDepth 100000 in
set_option maxHeartbeats 4000000 in
theorem CT_13 {G : xG} {l : Launch} : xC G l mM_X5_init 1 [.ref (xad G 32)] q190 none q192 := by
  refine xC_of (by decide) rfl (by decide +kernel) (Nat.le_of_ble_eq_true rfl) (fun K hC hE hR _ => ?_)
  refine x_aload_n hC dX5_init_0 rfl (j := 0) rfl <| ?_
  refine x_objInit hC hR (by decide) dX5_init_1 wml_X5_1 (xmt_1 21 (by decide +kernel) (by decide +kernel)) (xmt_1 22 rfl rfl) (Nat.le_of_ble_eq_true rfl) ?_
  show xV G l mM_X5_init K 4 [(0, .ref (xad G 32))] [] q190
  refine x_aload_n hC dX5_init_4 rfl (j := 0) rfl <| x_bipush (v := (60 : Int32)) hC dX5_init_5 (by decide) <| ?_
  refine x_newa (t := 3) (N := 60) (ty := .long) hC dX5_init_7 rfl rfl (fun h => h) (by decide +kernel) (xmt_1 213 (by decide +kernel) (by decide +kernel)) (by decide) (by decide) (by decide) (fun _ => rfl) (by decide) (by decide +kernel) (by rw [← hE.2.1]; exact (by decide +kernel : q190.1 + 1 ≤ q192.1)) (by rw [← hE.2.2]; exact (by decide +kernel : xSz (q190.1 + 1) ≤ xSz q192.1)) ?_
  show xV G l mM_X5_init K 9 [(0, .ref (xad G 32))] [.ref (xad G 33), .ref (xad G 32)] q191
  refine x_putFR (k := 0) (N := 5) hC dX5_init_9 wfl_X5_9 (by decide) (by decide) (by decide) (by decide +kernel) (by decide) rfl rfl (by decide) ?_
  show xV G l mM_X5_init K 12 [(0, .ref (xad G 32))] [] q192
  exact x_vret (rest := []) hC hE rfl dX5_init_12
set_option maxRecDepth 100000 in
set_option maxHeartbeats 4000000 in
theorem CT_14 {G : xG} {l : Launch} : xC G l mM_X5_init 1 [.ref (xad G 34)] q194 none q196 := by
  refine xC_of (by decide) rfl (by decide +kernel) (Nat.le_of_ble_eq_true rfl) (fun K hC hE hR _ => ?_)
  refine x_aload_n hC dX5_init_0 rfl (j := 0) rfl <| ?_
  refine x_objInit hC hR (by decide) dX5_init_1 wml_X5_1 (xmt_1 21 (by decide +kernel) (by decide +kernel)) (xmt_1 22 rfl rfl) (Nat.le_of_ble_eq_true rfl) ?_
  show xV G l mM_X5_init K 4 [(0, .ref (xad G 34))] [] q194
  refine x_aload_n hC dX5_init_4 rfl (j := 0) rfl <| x_bipush (v := (60 : Int32)) hC dX5_init_5 (by decide) <| ?_
  refine x_newa (t := 3) (N := 60) (ty := .long) hC dX5_init_7 rfl rfl (fun h => h) (by decide +kernel) (xmt_1 213 (by decide +kernel) (by decide +kernel)) (by decide) (by decide) (by decide) (fun _ => rfl) (by decide) (by decide +kernel) (by rw [← hE.2.1]; exact (by decide +kernel : q194.1 + 1 ≤ q196.1)) (by rw [← hE.2.2]; exact (by decide +kernel : xSz (q194.1 + 1) ≤ xSz q196.1)) ?_
  show xV G l mM_X5_init K 9 [(0, .ref (xad G 34))] [.ref (xad G 35), .ref (xad G 34)] q195
  refine x_putFR (k := 0) (N := 5) hC dX5_init_9 wfl_X5_9 (by decide) (by decide) (by decide) (by decide +kernel) (by decide) rfl rfl (by decide) ?_
  show xV G l mM_X5_init K 12 [(0, .ref (xad G 34))] [] q196
  exact x_vret (rest := []) hC hE rfl dX5_init_12
set_option maxRecDepth 100000 in
set_option maxHeartbeats 4000000 in
theorem CT_15 {G : xG} {l : Launch} : xC G l mM_X5_init 1 [.ref (xad G 36)] q198 none q200 := by
  refine xC_of (by decide) rfl (by decide +kernel) (Nat.le_of_ble_eq_true rfl) (fun K hC hE hR _ => ?_)
  refine x_aload_n hC dX5_init_0 rfl (j := 0) rfl <| ?_
  refine x_objInit hC hR (by decide) dX5_init_1 wml_X5_1 (xmt_1 21 (by decide +kernel) (by decide +kernel)) (xmt_1 22 rfl rfl) (Nat.le_of_ble_eq_true rfl) ?_
  show xV G l mM_X5_init K 4 [(0, .ref (xad G 36))] [] q198
  refine x_aload_n hC dX5_init_4 rfl (j := 0) rfl <| x_bipush (v := (60 : Int32)) hC dX5_init_5 (by decide) <| ?_
  refine x_newa (t := 3) (N := 60) (ty := .long) hC dX5_init_7 rfl rfl (fun h => h) (by decide +kernel) (xmt_1 213 (by decide +kernel) (by decide +kernel)) (by decide) (by decide) (by decide) (fun _ => rfl) (by decide) (by decide +kernel) (by rw [← hE.2.1]; exact (by decide +kernel : q198.1 + 1 ≤ q200.1)) (by rw [← hE.2.2]; exact (by decide +kernel : xSz (q198.1 + 1) ≤ xSz q200.1)) ?_
  show xV G l mM_X5_init K 9 [(0, .ref (xad G 36))] [.ref (xad G 37), .ref (xad G 36)] q199
  refine x_putFR (k := 0) (N := 5) hC dX5_init_9 wfl_X5_9 (by decide) (by decide) (by decide) (by decide +kernel) (by decide) rfl rfl (by decide) ?_
  show xV G l mM_X5_init K 12 [(0, .ref (xad G 36))] [] q200
  exact x_vret (rest := []) hC hE rfl dX5_init_12
set_option maxRecDepth 100000 in
set_option maxHeartbeats 4000000 in
theorem CT_16 {G : xG} {l : Launch} : xC G l mM_X5_init 1 [.ref (xad G 38)] q202 none q204 := by
  refine xC_of (by decide) rfl (by decide +kernel) (Nat.le_of_ble_eq_true rfl) (fun K hC hE hR _ => ?_)
  refine x_aload_n hC dX5_init_0 rfl (j := 0) rfl <| ?_
  refine x_objInit hC hR (by decide) dX5_init_1 wml_X5_1 (xmt_1 21 (by decide +kernel) (by decide +kernel)) (xmt_1 22 rfl rfl) (Nat.le_of_ble_eq_true rfl) ?_
  show xV G l mM_X5_init K 4 [(0, .ref (xad G 38))] [] q202
  refine x_aload_n hC dX5_init_4 rfl (j := 0) rfl <| x_bipush (v := (60 : Int32)) hC dX5_init_5 (by decide) <| ?_
  refine x_newa (t := 3) (N := 60) (ty := .long) hC dX5_init_7 rfl rfl (fun h => h) (by decide +kernel) (xmt_1 213 (by decide +kernel) (by decide +kernel)) (by decide) (by decide) (by decide) (fun _ => rfl) (by decide) (by decide +kernel) (by rw [← hE.2.1]; exact (by decide +kernel : q202.1 + 1 ≤ q204.1)) (by rw [← hE.2.2]; exact (by decide +kernel : xSz (q202.1 + 1) ≤ xSz q204.1)) ?_
  show xV G l mM_X5_init K 9 [(0, .ref (xad G 38))] [.ref (xad G 39), .ref (xad G 38)] q203
  refine x_putFR (k := 0) (N := 5) hC dX5_init_9 wfl_X5_9 (by decide) (by decide) (by decide) (by decide +kernel) (by decide) rfl rfl (by decide) ?_
  show xV G l mM_X5_init K 12 [(0, .ref (xad G 38))] [] q204
  exact x_vret (rest := []) hC hE rfl dX5_init_12
set_option maxRecDepth 100000 in
set_option maxHeartbeats 4000000 in
theorem CT_17 {G : xG} {l : Launch} : xC G l mM_X7_init 1 [.ref (xad G 40)] q206 none q210 := by
  refine xC_of (by decide) rfl (by decide +kernel) (Nat.le_of_ble_eq_true rfl) (fun K hC hE hR _ => ?_)
  refine x_aload_n hC dX7_init_0 rfl (j := 0) rfl <| ?_
  refine x_objInit hC hR (by decide) dX7_init_1 wml_X7_1 (xmt_1 21 (by decide +kernel) (by decide +kernel)) (xmt_1 22 rfl rfl) (Nat.le_of_ble_eq_true rfl) ?_
  show xV G l mM_X7_init K 4 [(0, .ref (xad G 40))] [] q206
  refine x_aload_n hC dX7_init_4 rfl (j := 0) rfl <| x_bipush (v := (50 : Int32)) hC dX7_init_5 (by decide) <| ?_
  refine x_newa (t := 0) (N := 50) (ty := .int) hC dX7_init_7 rfl rfl (fun h => h) (by decide +kernel) (xmt_1 33 (by decide +kernel) (by decide +kernel)) (by decide) (by decide) (by decide) (fun _ => rfl) (by decide) (by decide +kernel) (by rw [← hE.2.1]; exact (by decide +kernel : q206.1 + 1 ≤ q210.1)) (by rw [← hE.2.2]; exact (by decide +kernel : xSz (q206.1 + 1) ≤ xSz q210.1)) ?_
  show xV G l mM_X7_init K 9 [(0, .ref (xad G 40))] [.ref (xad G 41), .ref (xad G 40)] q207
  refine x_putFR (k := 0) (N := 5) hC dX7_init_9 wfl_X7_9 (by decide) (by decide) (by decide) (by decide +kernel) (by decide) rfl rfl (by decide) ?_
  show xV G l mM_X7_init K 12 [(0, .ref (xad G 40))] [] q208
  refine x_aload_n hC dX7_init_12 rfl (j := 0) rfl <| x_bipush (v := (24 : Int32)) hC dX7_init_13 (by decide) <| ?_
  refine x_newa (t := 0) (N := 24) (ty := .int) hC dX7_init_15 rfl rfl (fun h => h) (by decide +kernel) (xmt_1 33 (by decide +kernel) (by decide +kernel)) (by decide) (by decide) (by decide) (fun _ => rfl) (by decide) (by decide +kernel) (by rw [← hE.2.1]; exact (by decide +kernel : q208.1 + 1 ≤ q210.1)) (by rw [← hE.2.2]; exact (by decide +kernel : xSz (q208.1 + 1) ≤ xSz q210.1)) ?_
  show xV G l mM_X7_init K 17 [(0, .ref (xad G 40))] [.ref (xad G 42), .ref (xad G 40)] q209
  refine x_putFR (k := 1) (N := 5) hC dX7_init_17 wfl_X7_13 (by decide) (by decide) (by decide) (by decide +kernel) (by decide) rfl rfl (by decide) ?_
  show xV G l mM_X7_init K 20 [(0, .ref (xad G 40))] [] q210
  exact x_vret (rest := []) hC hE rfl dX7_init_20
set_option maxRecDepth 100000 in
set_option maxHeartbeats 4000000 in
theorem CT_1 {G : xG} {l : Launch} : xC G l mM_X8_init 3 [.ref (xad G 0)] q1 none q212 := by
  refine xC_of (by decide) rfl (by decide +kernel) (Nat.le_of_ble_eq_true rfl) (fun K hC hE hR _ => ?_)
  refine x_aload_n hC dX8_init_0 rfl (j := 0) rfl <| ?_
  refine x_objInit hC hR (by decide) dX8_init_1 wml_X8_1 (xmt_1 21 (by decide +kernel) (by decide +kernel)) (xmt_1 22 rfl rfl) (Nat.le_of_ble_eq_true rfl) ?_
  show xV G l mM_X8_init K 4 [(0, .ref (xad G 0))] [] q1
  refine x_aload_n hC dX8_init_4 rfl (j := 0) rfl <| ?_
  refine x_new (q := (RX3, TX3, 1)) (ci := 3) hC dX8_init_5 (by decide) rfl (by decide +kernel) wcl_X8_7 (xmt_1 24 (by decide +kernel) (by decide +kernel)) (xmt_1 2 (by decide +kernel) (by decide +kernel)) (by decide +kernel) (by rw [← hE.2.1]; exact (by decide +kernel : q1.1 + 1 ≤ q212.1)) (by rw [← hE.2.2]; exact (by decide +kernel : xSz (q1.1 + 1) ≤ xSz q212.1)) ?_
  show xV G l mM_X8_init K 8 [(0, .ref (xad G 0))] [.ref (xad G 1), .ref (xad G 0)] q2
  refine x_dup hC dX8_init_8 rfl <| ?_
  refine x_callI0 (rest := [.ref (xad G 1), .ref (xad G 0)]) hC hR dX8_init_9 mK_X3_init wml_X8_9 (CT_2) (by decide) rfl (Nat.le_of_ble_eq_true rfl) (by rw [← hE.2.1]; exact (by decide +kernel : q126.1 ≤ q212.1)) (by rw [← hE.2.2]; exact (by decide +kernel : xSz q126.1 ≤ xSz q212.1)) rfl rfl ?_
  show xV G l mM_X8_init K 12 [(0, .ref (xad G 0))] [.ref (xad G 1), .ref (xad G 0)] q126
  refine x_putFR (k := 0) (N := 14) hC dX8_init_12 wfl_X8_10 (by decide) (by decide) (by decide) (by decide +kernel) (by decide) rfl rfl (by decide) ?_
  show xV G l mM_X8_init K 15 [(0, .ref (xad G 0))] [] q127
  refine x_aload_n hC dX8_init_15 rfl (j := 0) rfl <| ?_
  refine x_new (q := (RX0, TX0, 4)) (ci := 0) hC dX8_init_16 (by decide) rfl (by decide +kernel) wcl_X8_16 (xmt_1 35 (by decide +kernel) (by decide +kernel)) (xmt_1 3 (by decide +kernel) (by decide +kernel)) (by decide +kernel) (by rw [← hE.2.1]; exact (by decide +kernel : q127.1 + 1 ≤ q212.1)) (by rw [← hE.2.2]; exact (by decide +kernel : xSz (q127.1 + 1) ≤ xSz q212.1)) ?_
  show xV G l mM_X8_init K 19 [(0, .ref (xad G 0))] [.ref (xad G 3), .ref (xad G 0)] q128
  refine x_dup hC dX8_init_19 rfl <| ?_
  refine x_callI0 (rest := [.ref (xad G 3), .ref (xad G 0)]) hC hR dX8_init_20 mK_X0_init wml_X8_18 (CT_3) (by decide) rfl (Nat.le_of_ble_eq_true rfl) (by rw [← hE.2.1]; exact (by decide +kernel : q129.1 ≤ q212.1)) (by rw [← hE.2.2]; exact (by decide +kernel : xSz q129.1 ≤ xSz q212.1)) rfl rfl ?_
  show xV G l mM_X8_init K 23 [(0, .ref (xad G 0))] [.ref (xad G 3), .ref (xad G 0)] q129
  refine x_putFR (k := 1) (N := 14) hC dX8_init_23 wfl_X8_19 (by decide) (by decide) (by decide) (by decide +kernel) (by decide) rfl rfl (by decide) ?_
  show xV G l mM_X8_init K 26 [(0, .ref (xad G 0))] [] q130
  refine x_aload_n hC dX8_init_26 rfl (j := 0) rfl <| ?_
  refine x_new (q := (RX0, TX0, 4)) (ci := 0) hC dX8_init_27 (by decide) rfl (by decide +kernel) wcl_X8_16 (xmt_1 35 (by decide +kernel) (by decide +kernel)) (xmt_1 3 (by decide +kernel) (by decide +kernel)) (by decide +kernel) (by rw [← hE.2.1]; exact (by decide +kernel : q130.1 + 1 ≤ q212.1)) (by rw [← hE.2.2]; exact (by decide +kernel : xSz (q130.1 + 1) ≤ xSz q212.1)) ?_
  show xV G l mM_X8_init K 30 [(0, .ref (xad G 0))] [.ref (xad G 4), .ref (xad G 0)] q131
  refine x_dup hC dX8_init_30 rfl <| ?_
  refine x_callI0 (rest := [.ref (xad G 4), .ref (xad G 0)]) hC hR dX8_init_31 mK_X0_init wml_X8_18 (CT_4) (by decide) rfl (Nat.le_of_ble_eq_true rfl) (by rw [← hE.2.1]; exact (by decide +kernel : q132.1 ≤ q212.1)) (by rw [← hE.2.2]; exact (by decide +kernel : xSz q132.1 ≤ xSz q212.1)) rfl rfl ?_
  show xV G l mM_X8_init K 34 [(0, .ref (xad G 0))] [.ref (xad G 4), .ref (xad G 0)] q132
  refine x_putFR (k := 2) (N := 14) hC dX8_init_34 wfl_X8_23 (by decide) (by decide) (by decide) (by decide +kernel) (by decide) rfl rfl (by decide) ?_
  show xV G l mM_X8_init K 37 [(0, .ref (xad G 0))] [] q133
  refine x_aload_n hC dX8_init_37 rfl (j := 0) rfl <| ?_
  refine x_new (q := (RX0, TX0, 4)) (ci := 0) hC dX8_init_38 (by decide) rfl (by decide +kernel) wcl_X8_16 (xmt_1 35 (by decide +kernel) (by decide +kernel)) (xmt_1 3 (by decide +kernel) (by decide +kernel)) (by decide +kernel) (by rw [← hE.2.1]; exact (by decide +kernel : q133.1 + 1 ≤ q212.1)) (by rw [← hE.2.2]; exact (by decide +kernel : xSz (q133.1 + 1) ≤ xSz q212.1)) ?_
  show xV G l mM_X8_init K 41 [(0, .ref (xad G 0))] [.ref (xad G 5), .ref (xad G 0)] q134
  refine x_dup hC dX8_init_41 rfl <| ?_
  refine x_callI0 (rest := [.ref (xad G 5), .ref (xad G 0)]) hC hR dX8_init_42 mK_X0_init wml_X8_18 (CT_5) (by decide) rfl (Nat.le_of_ble_eq_true rfl) (by rw [← hE.2.1]; exact (by decide +kernel : q135.1 ≤ q212.1)) (by rw [← hE.2.2]; exact (by decide +kernel : xSz q135.1 ≤ xSz q212.1)) rfl rfl ?_
  show xV G l mM_X8_init K 45 [(0, .ref (xad G 0))] [.ref (xad G 5), .ref (xad G 0)] q135
  refine x_putFR (k := 3) (N := 14) hC dX8_init_45 wfl_X8_26 (by decide) (by decide) (by decide) (by decide +kernel) (by decide) rfl rfl (by decide) ?_
  show xV G l mM_X8_init K 48 [(0, .ref (xad G 0))] [] q136
  refine x_aload_n hC dX8_init_48 rfl (j := 0) rfl <| x_bipush (v := (60 : Int32)) hC dX8_init_49 (by decide) <| ?_
  refine x_newa (t := 0) (N := 60) (ty := .int) hC dX8_init_51 rfl rfl (fun h => h) (by decide +kernel) (xmt_1 33 (by decide +kernel) (by decide +kernel)) (by decide) (by decide) (by decide) (fun _ => rfl) (by decide) (by decide +kernel) (by rw [← hE.2.1]; exact (by decide +kernel : q136.1 + 1 ≤ q212.1)) (by rw [← hE.2.2]; exact (by decide +kernel : xSz (q136.1 + 1) ≤ xSz q212.1)) ?_
  show xV G l mM_X8_init K 53 [(0, .ref (xad G 0))] [.ref (xad G 6), .ref (xad G 0)] q137
  refine x_putFR (k := 4) (N := 14) hC dX8_init_53 wfl_X8_29 (by decide) (by decide) (by decide) (by decide +kernel) (by decide) rfl rfl (by decide) ?_
  show xV G l mM_X8_init K 56 [(0, .ref (xad G 0))] [] q138
  refine x_aload_n hC dX8_init_56 rfl (j := 0) rfl <| x_bipush (v := (60 : Int32)) hC dX8_init_57 (by decide) <| ?_
  refine x_newa (t := 4) (N := 60) (ty := .boolean) hC dX8_init_59 rfl rfl (fun h => h) (by decide +kernel) (xmt_1 102 (by decide +kernel) (by decide +kernel)) (by decide) (by decide) (by decide) (fun _ => rfl) (by decide) (by decide +kernel) (by rw [← hE.2.1]; exact (by decide +kernel : q138.1 + 1 ≤ q212.1)) (by rw [← hE.2.2]; exact (by decide +kernel : xSz (q138.1 + 1) ≤ xSz q212.1)) ?_
  show xV G l mM_X8_init K 61 [(0, .ref (xad G 0))] [.ref (xad G 7), .ref (xad G 0)] q139
  refine x_putFR (k := 5) (N := 14) hC dX8_init_61 wfl_X8_33 (by decide) (by decide) (by decide) (by decide +kernel) (by decide) rfl rfl (by decide) ?_
  show xV G l mM_X8_init K 64 [(0, .ref (xad G 0))] [] q140
  refine x_aload_n hC dX8_init_64 rfl (j := 0) rfl <| ?_
  refine x_new (q := (RX2, TX2, 10)) (ci := 2) hC dX8_init_65 (by decide) rfl (by decide +kernel) wcl_X8_37 (xmt_1 65 (by decide +kernel) (by decide +kernel)) (xmt_1 4 (by decide +kernel) (by decide +kernel)) (by decide +kernel) (by rw [← hE.2.1]; exact (by decide +kernel : q140.1 + 1 ≤ q212.1)) (by rw [← hE.2.2]; exact (by decide +kernel : xSz (q140.1 + 1) ≤ xSz q212.1)) ?_
  show xV G l mM_X8_init K 68 [(0, .ref (xad G 0))] [.ref (xad G 8), .ref (xad G 0)] q141
  refine x_dup hC dX8_init_68 rfl <| ?_
  refine x_callIN0 (rest := [.ref (xad G 8), .ref (xad G 0)]) hC hR dX8_init_69 mK_X2_init rfl (by decide +kernel) (CT_6) (by decide) rfl (Nat.le_of_ble_eq_true rfl) (by rw [← hE.2.1]; exact (by decide +kernel : q149.1 ≤ q212.1)) (by rw [← hE.2.2]; exact (by decide +kernel : xSz q149.1 ≤ xSz q212.1)) rfl rfl ?_
  show xV G l mM_X8_init K 72 [(0, .ref (xad G 0))] [.ref (xad G 8), .ref (xad G 0)] q149
  refine x_putFR (k := 6) (N := 14) hC dX8_init_72 wfl_X8_40 (by decide) (by decide) (by decide) (by decide +kernel) (by decide) rfl rfl (by decide) ?_
  show xV G l mM_X8_init K 75 [(0, .ref (xad G 0))] [] q150
  refine x_aload_n hC dX8_init_75 rfl (j := 0) rfl <| ?_
  refine x_new (q := (RX6, TX6, 8)) (ci := 6) hC dX8_init_76 (by decide) rfl (by decide +kernel) wcl_X8_44 (xmt_1 104 (by decide +kernel) (by decide +kernel)) (xmt_1 5 (by decide +kernel) (by decide +kernel)) (by decide +kernel) (by rw [← hE.2.1]; exact (by decide +kernel : q150.1 + 1 ≤ q212.1)) (by rw [← hE.2.2]; exact (by decide +kernel : xSz (q150.1 + 1) ≤ xSz q212.1)) ?_
  show xV G l mM_X8_init K 79 [(0, .ref (xad G 0))] [.ref (xad G 13), .ref (xad G 0)] q151
  refine x_dup hC dX8_init_79 rfl <| ?_
  refine x_callIN0 (rest := [.ref (xad G 13), .ref (xad G 0)]) hC hR dX8_init_80 mK_X6_init rfl (by decide +kernel) (CT_7) (by decide) rfl (Nat.le_of_ble_eq_true rfl) (by rw [← hE.2.1]; exact (by decide +kernel : q161.1 ≤ q212.1)) (by rw [← hE.2.2]; exact (by decide +kernel : xSz q161.1 ≤ xSz q212.1)) rfl rfl ?_
  show xV G l mM_X8_init K 83 [(0, .ref (xad G 0))] [.ref (xad G 13), .ref (xad G 0)] q161
  refine x_putFR (k := 7) (N := 14) hC dX8_init_83 wfl_X8_47 (by decide) (by decide) (by decide) (by decide +kernel) (by decide) rfl rfl (by decide) ?_
  show xV G l mM_X8_init K 86 [(0, .ref (xad G 0))] [] q162
  refine x_aload_n hC dX8_init_86 rfl (j := 0) rfl <| ?_
  refine x_new (q := (RX4, TX4, 5)) (ci := 4) hC dX8_init_87 (by decide) rfl (by decide +kernel) wcl_X8_51 (xmt_1 137 (by decide +kernel) (by decide +kernel)) (xmt_1 6 (by decide +kernel) (by decide +kernel)) (by decide +kernel) (by rw [← hE.2.1]; exact (by decide +kernel : q162.1 + 1 ≤ q212.1)) (by rw [← hE.2.2]; exact (by decide +kernel : xSz (q162.1 + 1) ≤ xSz q212.1)) ?_
  show xV G l mM_X8_init K 90 [(0, .ref (xad G 0))] [.ref (xad G 19), .ref (xad G 0)] q163
  refine x_dup hC dX8_init_90 rfl <| ?_
  refine x_callIN0 (rest := [.ref (xad G 19), .ref (xad G 0)]) hC hR dX8_init_91 mK_X4_init rfl (by decide +kernel) (CT_8) (by decide) rfl (Nat.le_of_ble_eq_true rfl) (by rw [← hE.2.1]; exact (by decide +kernel : q170.1 ≤ q212.1)) (by rw [← hE.2.2]; exact (by decide +kernel : xSz q170.1 ≤ xSz q212.1)) rfl rfl ?_
  show xV G l mM_X8_init K 94 [(0, .ref (xad G 0))] [.ref (xad G 19), .ref (xad G 0)] q170
  refine x_putFR (k := 8) (N := 14) hC dX8_init_94 wfl_X8_54 (by decide) (by decide) (by decide) (by decide +kernel) (by decide) rfl rfl (by decide) ?_
  show xV G l mM_X8_init K 97 [(0, .ref (xad G 0))] [] q171
  refine x_aload_n hC dX8_init_97 rfl (j := 0) rfl <| ?_
  refine x_new (q := (RX1, TX1, 5)) (ci := 1) hC dX8_init_98 (by decide) rfl (by decide +kernel) wcl_X8_58 (xmt_1 163 (by decide +kernel) (by decide +kernel)) (xmt_1 7 (by decide +kernel) (by decide +kernel)) (by decide +kernel) (by rw [← hE.2.1]; exact (by decide +kernel : q171.1 + 1 ≤ q212.1)) (by rw [← hE.2.2]; exact (by decide +kernel : xSz (q171.1 + 1) ≤ xSz q212.1)) ?_
  show xV G l mM_X8_init K 101 [(0, .ref (xad G 0))] [.ref (xad G 23), .ref (xad G 0)] q172
  refine x_dup hC dX8_init_101 rfl <| ?_
  refine x_callIN0 (rest := [.ref (xad G 23), .ref (xad G 0)]) hC hR dX8_init_102 mK_X1_init rfl (by decide +kernel) (CT_10) (by decide) rfl (Nat.le_of_ble_eq_true rfl) (by rw [← hE.2.1]; exact (by decide +kernel : q178.1 ≤ q212.1)) (by rw [← hE.2.2]; exact (by decide +kernel : xSz q178.1 ≤ xSz q212.1)) rfl rfl ?_
  show xV G l mM_X8_init K 105 [(0, .ref (xad G 0))] [.ref (xad G 23), .ref (xad G 0)] q178
  refine x_putFR (k := 9) (N := 14) hC dX8_init_105 wfl_X8_61 (by decide) (by decide) (by decide) (by decide +kernel) (by decide) rfl rfl (by decide) ?_
  show xV G l mM_X8_init K 108 [(0, .ref (xad G 0))] [] q179
  refine x_aload_n hC dX8_init_108 rfl (j := 0) rfl <| x_bipush (v := (6 : Int32)) hC dX8_init_109 (by decide) <| ?_
  refine x_newq (N := 6) hC dX8_init_111 wcl_X8_65 (by decide +kernel) (by decide) (by decide) (by decide +kernel) (by rw [← hE.2.1]; exact (by decide +kernel : q179.1 + 1 ≤ q212.1)) (by rw [← hE.2.2]; exact (by decide +kernel : xSz (q179.1 + 1) ≤ xSz q212.1)) ?_
  show xV G l mM_X8_init K 114 [(0, .ref (xad G 0))] [.ref (xad G 27), .ref (xad G 0)] q180
  refine x_putFR (k := 10) (N := 14) hC dX8_init_114 wfl_X8_67 (by decide) (by decide) (by decide) (by decide +kernel) (by decide) rfl rfl (by decide) ?_
  show xV G l mM_X8_init K 117 [(0, .ref (xad G 0))] [] q181
  refine x_iconst (v := (0 : Int32)) hC dX8_init_117 (by decide) <| x_istore_n hC dX8_init_118 rfl (by decide) rfl <| x_iload_n hC dX8_init_119 rfl (j := 0) rfl <| x_bipush (v := (6 : Int32)) hC dX8_init_120 (by decide) <| ?_
  refine x_icmp_ge (tgt := 144) hC dX8_init_122 (by decide) (fun c => absurd c (by decide)) (fun _ => ?_)
  refine x_aload_n hC dX8_init_125 rfl (j := 1) rfl <| ?_
  refine x_getR (q := 27) (k := 10) (N := 14) hC dX8_init_126 wfl_X8_67 (by decide) (by decide) (by decide) (by decide +kernel) (by decide) (by decide +kernel) ?_
  refine x_iload_n hC dX8_init_129 rfl (j := 0) rfl <| ?_
  refine x_new (q := (RX5, TX5, 5)) (ci := 5) hC dX8_init_130 (by decide) rfl (by decide +kernel) wcl_X8_65 (xmt_1 188 (by decide +kernel) (by decide +kernel)) (xmt_1 8 (by decide +kernel) (by decide +kernel)) (by decide +kernel) (by rw [← hE.2.1]; exact (by decide +kernel : q181.1 + 1 ≤ q212.1)) (by rw [← hE.2.2]; exact (by decide +kernel : xSz (q181.1 + 1) ≤ xSz q212.1)) ?_
  show xV G l mM_X8_init K 133 [(1, .int (0 : Int32)), (0, .ref (xad G 0))] [.ref (xad G 28), .int (0 : Int32), .ref (xad G 27)] q182
  refine x_dup hC dX8_init_133 rfl <| ?_
  refine x_callIN0 (rest := [.ref (xad G 28), .int (0 : Int32), .ref (xad G 27)]) hC hR dX8_init_134 mK_X5_init rfl (by decide +kernel) (CT_11) (by decide) rfl (Nat.le_of_ble_eq_true rfl) (by rw [← hE.2.1]; exact (by decide +kernel : q184.1 ≤ q212.1)) (by rw [← hE.2.2]; exact (by decide +kernel : xSz q184.1 ≤ xSz q212.1)) rfl rfl ?_
  show xV G l mM_X8_init K 137 [(1, .int (0 : Int32)), (0, .ref (xad G 0))] [.ref (xad G 28), .int (0 : Int32), .ref (xad G 27)] q184
  refine x_astq (N := 6) (Nq := 5) (ci := 0) hC dX8_init_137 (by decide) (by decide +kernel) (by decide) (by decide) (by decide +kernel) ?_
  show xV G l mM_X8_init K 138 [(1, .int (0 : Int32)), (0, .ref (xad G 0))] [] q185
  refine x_iinc hC dX8_init_138 (j := 0) (v := (1 : Int32)) rfl (by decide) (by decide) rfl <| x_goto (tgt := 119) hC dX8_init_141 (by decide) <| x_iload_n hC dX8_init_119 rfl (j := 0) rfl <| x_bipush (v := (6 : Int32)) hC dX8_init_120 (by decide) <| ?_
  refine x_icmp_ge (tgt := 144) hC dX8_init_122 (by decide) (fun c => absurd c (by decide)) (fun _ => ?_)
  refine x_aload_n hC dX8_init_125 rfl (j := 1) rfl <| ?_
  refine x_getR (q := 27) (k := 10) (N := 14) hC dX8_init_126 wfl_X8_67 (by decide) (by decide) (by decide) (by decide +kernel) (by decide) (by decide +kernel) ?_
  refine x_iload_n hC dX8_init_129 rfl (j := 0) rfl <| ?_
  refine x_new (q := (RX5, TX5, 5)) (ci := 5) hC dX8_init_130 (by decide) rfl (by decide +kernel) wcl_X8_65 (xmt_1 188 (by decide +kernel) (by decide +kernel)) (xmt_1 8 (by decide +kernel) (by decide +kernel)) (by decide +kernel) (by rw [← hE.2.1]; exact (by decide +kernel : q185.1 + 1 ≤ q212.1)) (by rw [← hE.2.2]; exact (by decide +kernel : xSz (q185.1 + 1) ≤ xSz q212.1)) ?_
  show xV G l mM_X8_init K 133 [(1, .int (1 : Int32)), (0, .ref (xad G 0))] [.ref (xad G 30), .int (1 : Int32), .ref (xad G 27)] q186
  refine x_dup hC dX8_init_133 rfl <| ?_
  refine x_callIN0 (rest := [.ref (xad G 30), .int (1 : Int32), .ref (xad G 27)]) hC hR dX8_init_134 mK_X5_init rfl (by decide +kernel) (CT_12) (by decide) rfl (Nat.le_of_ble_eq_true rfl) (by rw [← hE.2.1]; exact (by decide +kernel : q188.1 ≤ q212.1)) (by rw [← hE.2.2]; exact (by decide +kernel : xSz q188.1 ≤ xSz q212.1)) rfl rfl ?_
  show xV G l mM_X8_init K 137 [(1, .int (1 : Int32)), (0, .ref (xad G 0))] [.ref (xad G 30), .int (1 : Int32), .ref (xad G 27)] q188
  refine x_astq (N := 6) (Nq := 5) (ci := 0) hC dX8_init_137 (by decide) (by decide +kernel) (by decide) (by decide) (by decide +kernel) ?_
  show xV G l mM_X8_init K 138 [(1, .int (1 : Int32)), (0, .ref (xad G 0))] [] q189
  refine x_iinc hC dX8_init_138 (j := 0) (v := (2 : Int32)) rfl (by decide) (by decide) rfl <| x_goto (tgt := 119) hC dX8_init_141 (by decide) <| x_iload_n hC dX8_init_119 rfl (j := 0) rfl <| x_bipush (v := (6 : Int32)) hC dX8_init_120 (by decide) <| ?_
  refine x_icmp_ge (tgt := 144) hC dX8_init_122 (by decide) (fun c => absurd c (by decide)) (fun _ => ?_)
  refine x_aload_n hC dX8_init_125 rfl (j := 1) rfl <| ?_
  refine x_getR (q := 27) (k := 10) (N := 14) hC dX8_init_126 wfl_X8_67 (by decide) (by decide) (by decide) (by decide +kernel) (by decide) (by decide +kernel) ?_
  refine x_iload_n hC dX8_init_129 rfl (j := 0) rfl <| ?_
  refine x_new (q := (RX5, TX5, 5)) (ci := 5) hC dX8_init_130 (by decide) rfl (by decide +kernel) wcl_X8_65 (xmt_1 188 (by decide +kernel) (by decide +kernel)) (xmt_1 8 (by decide +kernel) (by decide +kernel)) (by decide +kernel) (by rw [← hE.2.1]; exact (by decide +kernel : q189.1 + 1 ≤ q212.1)) (by rw [← hE.2.2]; exact (by decide +kernel : xSz (q189.1 + 1) ≤ xSz q212.1)) ?_
  show xV G l mM_X8_init K 133 [(1, .int (2 : Int32)), (0, .ref (xad G 0))] [.ref (xad G 32), .int (2 : Int32), .ref (xad G 27)] q190
  refine x_dup hC dX8_init_133 rfl <| ?_
  refine x_callIN0 (rest := [.ref (xad G 32), .int (2 : Int32), .ref (xad G 27)]) hC hR dX8_init_134 mK_X5_init rfl (by decide +kernel) (CT_13) (by decide) rfl (Nat.le_of_ble_eq_true rfl) (by rw [← hE.2.1]; exact (by decide +kernel : q192.1 ≤ q212.1)) (by rw [← hE.2.2]; exact (by decide +kernel : xSz q192.1 ≤ xSz q212.1)) rfl rfl ?_
  show xV G l mM_X8_init K 137 [(1, .int (2 : Int32)), (0, .ref (xad G 0))] [.ref (xad G 32), .int (2 : Int32), .ref (xad G 27)] q192
  refine x_astq (N := 6) (Nq := 5) (ci := 0) hC dX8_init_137 (by decide) (by decide +kernel) (by decide) (by decide) (by decide +kernel) ?_
  show xV G l mM_X8_init K 138 [(1, .int (2 : Int32)), (0, .ref (xad G 0))] [] q193
  refine x_iinc hC dX8_init_138 (j := 0) (v := (3 : Int32)) rfl (by decide) (by decide) rfl <| x_goto (tgt := 119) hC dX8_init_141 (by decide) <| x_iload_n hC dX8_init_119 rfl (j := 0) rfl <| x_bipush (v := (6 : Int32)) hC dX8_init_120 (by decide) <| ?_
  refine x_icmp_ge (tgt := 144) hC dX8_init_122 (by decide) (fun c => absurd c (by decide)) (fun _ => ?_)
  refine x_aload_n hC dX8_init_125 rfl (j := 1) rfl <| ?_
  refine x_getR (q := 27) (k := 10) (N := 14) hC dX8_init_126 wfl_X8_67 (by decide) (by decide) (by decide) (by decide +kernel) (by decide) (by decide +kernel) ?_
  refine x_iload_n hC dX8_init_129 rfl (j := 0) rfl <| ?_
  refine x_new (q := (RX5, TX5, 5)) (ci := 5) hC dX8_init_130 (by decide) rfl (by decide +kernel) wcl_X8_65 (xmt_1 188 (by decide +kernel) (by decide +kernel)) (xmt_1 8 (by decide +kernel) (by decide +kernel)) (by decide +kernel) (by rw [← hE.2.1]; exact (by decide +kernel : q193.1 + 1 ≤ q212.1)) (by rw [← hE.2.2]; exact (by decide +kernel : xSz (q193.1 + 1) ≤ xSz q212.1)) ?_
  show xV G l mM_X8_init K 133 [(1, .int (3 : Int32)), (0, .ref (xad G 0))] [.ref (xad G 34), .int (3 : Int32), .ref (xad G 27)] q194
  refine x_dup hC dX8_init_133 rfl <| ?_
  refine x_callIN0 (rest := [.ref (xad G 34), .int (3 : Int32), .ref (xad G 27)]) hC hR dX8_init_134 mK_X5_init rfl (by decide +kernel) (CT_14) (by decide) rfl (Nat.le_of_ble_eq_true rfl) (by rw [← hE.2.1]; exact (by decide +kernel : q196.1 ≤ q212.1)) (by rw [← hE.2.2]; exact (by decide +kernel : xSz q196.1 ≤ xSz q212.1)) rfl rfl ?_
  show xV G l mM_X8_init K 137 [(1, .int (3 : Int32)), (0, .ref (xad G 0))] [.ref (xad G 34), .int (3 : Int32), .ref (xad G 27)] q196
  refine x_astq (N := 6) (Nq := 5) (ci := 0) hC dX8_init_137 (by decide) (by decide +kernel) (by decide) (by decide) (by decide +kernel) ?_
  show xV G l mM_X8_init K 138 [(1, .int (3 : Int32)), (0, .ref (xad G 0))] [] q197
  refine x_iinc hC dX8_init_138 (j := 0) (v := (4 : Int32)) rfl (by decide) (by decide) rfl <| x_goto (tgt := 119) hC dX8_init_141 (by decide) <| x_iload_n hC dX8_init_119 rfl (j := 0) rfl <| x_bipush (v := (6 : Int32)) hC dX8_init_120 (by decide) <| ?_
  refine x_icmp_ge (tgt := 144) hC dX8_init_122 (by decide) (fun c => absurd c (by decide)) (fun _ => ?_)
  refine x_aload_n hC dX8_init_125 rfl (j := 1) rfl <| ?_
  refine x_getR (q := 27) (k := 10) (N := 14) hC dX8_init_126 wfl_X8_67 (by decide) (by decide) (by decide) (by decide +kernel) (by decide) (by decide +kernel) ?_
  refine x_iload_n hC dX8_init_129 rfl (j := 0) rfl <| ?_
  refine x_new (q := (RX5, TX5, 5)) (ci := 5) hC dX8_init_130 (by decide) rfl (by decide +kernel) wcl_X8_65 (xmt_1 188 (by decide +kernel) (by decide +kernel)) (xmt_1 8 (by decide +kernel) (by decide +kernel)) (by decide +kernel) (by rw [← hE.2.1]; exact (by decide +kernel : q197.1 + 1 ≤ q212.1)) (by rw [← hE.2.2]; exact (by decide +kernel : xSz (q197.1 + 1) ≤ xSz q212.1)) ?_
  show xV G l mM_X8_init K 133 [(1, .int (4 : Int32)), (0, .ref (xad G 0))] [.ref (xad G 36), .int (4 : Int32), .ref (xad G 27)] q198
  refine x_dup hC dX8_init_133 rfl <| ?_
  refine x_callIN0 (rest := [.ref (xad G 36), .int (4 : Int32), .ref (xad G 27)]) hC hR dX8_init_134 mK_X5_init rfl (by decide +kernel) (CT_15) (by decide) rfl (Nat.le_of_ble_eq_true rfl) (by rw [← hE.2.1]; exact (by decide +kernel : q200.1 ≤ q212.1)) (by rw [← hE.2.2]; exact (by decide +kernel : xSz q200.1 ≤ xSz q212.1)) rfl rfl ?_
  show xV G l mM_X8_init K 137 [(1, .int (4 : Int32)), (0, .ref (xad G 0))] [.ref (xad G 36), .int (4 : Int32), .ref (xad G 27)] q200
  refine x_astq (N := 6) (Nq := 5) (ci := 0) hC dX8_init_137 (by decide) (by decide +kernel) (by decide) (by decide) (by decide +kernel) ?_
  show xV G l mM_X8_init K 138 [(1, .int (4 : Int32)), (0, .ref (xad G 0))] [] q201
  refine x_iinc hC dX8_init_138 (j := 0) (v := (5 : Int32)) rfl (by decide) (by decide) rfl <| x_goto (tgt := 119) hC dX8_init_141 (by decide) <| x_iload_n hC dX8_init_119 rfl (j := 0) rfl <| x_bipush (v := (6 : Int32)) hC dX8_init_120 (by decide) <| ?_
  refine x_icmp_ge (tgt := 144) hC dX8_init_122 (by decide) (fun c => absurd c (by decide)) (fun _ => ?_)
  refine x_aload_n hC dX8_init_125 rfl (j := 1) rfl <| ?_
  refine x_getR (q := 27) (k := 10) (N := 14) hC dX8_init_126 wfl_X8_67 (by decide) (by decide) (by decide) (by decide +kernel) (by decide) (by decide +kernel) ?_
  refine x_iload_n hC dX8_init_129 rfl (j := 0) rfl <| ?_
  refine x_new (q := (RX5, TX5, 5)) (ci := 5) hC dX8_init_130 (by decide) rfl (by decide +kernel) wcl_X8_65 (xmt_1 188 (by decide +kernel) (by decide +kernel)) (xmt_1 8 (by decide +kernel) (by decide +kernel)) (by decide +kernel) (by rw [← hE.2.1]; exact (by decide +kernel : q201.1 + 1 ≤ q212.1)) (by rw [← hE.2.2]; exact (by decide +kernel : xSz (q201.1 + 1) ≤ xSz q212.1)) ?_
  show xV G l mM_X8_init K 133 [(1, .int (5 : Int32)), (0, .ref (xad G 0))] [.ref (xad G 38), .int (5 : Int32), .ref (xad G 27)] q202
  refine x_dup hC dX8_init_133 rfl <| ?_
  refine x_callIN0 (rest := [.ref (xad G 38), .int (5 : Int32), .ref (xad G 27)]) hC hR dX8_init_134 mK_X5_init rfl (by decide +kernel) (CT_16) (by decide) rfl (Nat.le_of_ble_eq_true rfl) (by rw [← hE.2.1]; exact (by decide +kernel : q204.1 ≤ q212.1)) (by rw [← hE.2.2]; exact (by decide +kernel : xSz q204.1 ≤ xSz q212.1)) rfl rfl ?_
  show xV G l mM_X8_init K 137 [(1, .int (5 : Int32)), (0, .ref (xad G 0))] [.ref (xad G 38), .int (5 : Int32), .ref (xad G 27)] q204
  refine x_astq (N := 6) (Nq := 5) (ci := 0) hC dX8_init_137 (by decide) (by decide +kernel) (by decide) (by decide) (by decide +kernel) ?_
  show xV G l mM_X8_init K 138 [(1, .int (5 : Int32)), (0, .ref (xad G 0))] [] q205
  refine x_iinc hC dX8_init_138 (j := 0) (v := (6 : Int32)) rfl (by decide) (by decide) rfl <| x_goto (tgt := 119) hC dX8_init_141 (by decide) <| x_iload_n hC dX8_init_119 rfl (j := 0) rfl <| x_bipush (v := (6 : Int32)) hC dX8_init_120 (by decide) <| ?_
  refine x_icmp_ge (tgt := 144) hC dX8_init_122 (by decide) (fun _ => ?_) (fun c => absurd (by decide) c)
  refine x_aload_n hC dX8_init_144 rfl (j := 1) rfl <| ?_
  refine x_new (q := (RX7, TX7, 5)) (ci := 7) hC dX8_init_145 (by decide) rfl (by decide +kernel) wcl_X8_72 (xmt_1 215 (by decide +kernel) (by decide +kernel)) (xmt_1 9 (by decide +kernel) (by decide +kernel)) (by decide +kernel) (by rw [← hE.2.1]; exact (by decide +kernel : q205.1 + 1 ≤ q212.1)) (by rw [← hE.2.2]; exact (by decide +kernel : xSz (q205.1 + 1) ≤ xSz q212.1)) ?_
  show xV G l mM_X8_init K 148 [(1, .int (6 : Int32)), (0, .ref (xad G 0))] [.ref (xad G 40), .ref (xad G 0)] q206
  refine x_dup hC dX8_init_148 rfl <| ?_
  refine x_callIN0 (rest := [.ref (xad G 40), .ref (xad G 0)]) hC hR dX8_init_149 mK_X7_init rfl (by decide +kernel) (CT_17) (by decide) rfl (Nat.le_of_ble_eq_true rfl) (by rw [← hE.2.1]; exact (by decide +kernel : q210.1 ≤ q212.1)) (by rw [← hE.2.2]; exact (by decide +kernel : xSz q210.1 ≤ xSz q212.1)) rfl rfl ?_
  show xV G l mM_X8_init K 152 [(1, .int (6 : Int32)), (0, .ref (xad G 0))] [.ref (xad G 40), .ref (xad G 0)] q210
  refine x_putFR (k := 11) (N := 14) hC dX8_init_152 wfl_X8_75 (by decide) (by decide) (by decide) (by decide +kernel) (by decide) rfl rfl (by decide) ?_
  show xV G l mM_X8_init K 155 [(1, .int (6 : Int32)), (0, .ref (xad G 0))] [] q211
  refine x_aload_n hC dX8_init_155 rfl (j := 1) rfl <| x_iconst (v := (-1 : Int32)) hC dX8_init_156 (by decide) <| ?_
  refine x_putI (k := 13) (N := 14) hC dX8_init_157 wfl_X8_79 (by decide) (by decide) (by decide) (by decide +kernel) (by decide) (by decide) ?_
  show xV G l mM_X8_init K 160 [(1, .int (6 : Int32)), (0, .ref (xad G 0))] [] q212
  exact x_vret (rest := []) hC hE rfl dX8_init_160
set_option maxRecDepth 100000 in
set_option maxHeartbeats 4000000 in
theorem CT_18 {G : xG} {l : Launch} : xC G l mM_X9_init 1 [.ref (xad G 43)] q213 none q402 := by
  refine xC_of (by decide) rfl (by decide +kernel) (Nat.le_of_ble_eq_true rfl) (fun K hC hE hR _ => ?_)
  refine x_aload_n hC dX9_init_0 rfl (j := 0) rfl <| ?_
  refine x_objInit hC hR (by decide) dX9_init_1 wml_X9_1 (xmt_1 21 (by decide +kernel) (by decide +kernel)) (xmt_1 22 rfl rfl) (Nat.le_of_ble_eq_true rfl) ?_
  show xV G l mM_X9_init K 4 [(0, .ref (xad G 43))] [] q213
  refine x_aload_n hC dX9_init_4 rfl (j := 0) rfl <| x_bipush (v := (36 : Int32)) hC dX9_init_5 (by decide) <| ?_
  refine x_newa (t := 0) (N := 36) (ty := .int) hC dX9_init_7 rfl rfl (fun h => h) (by decide +kernel) (xmt_1 33 (by decide +kernel) (by decide +kernel)) (by decide) (by decide) (by decide) (fun _ => rfl) (by decide) (by decide +kernel) (by rw [← hE.2.1]; exact (by decide +kernel : q213.1 + 1 ≤ q402.1)) (by rw [← hE.2.2]; exact (by decide +kernel : xSz (q213.1 + 1) ≤ xSz q402.1)) ?_
  show xV G l mM_X9_init K 9 [(0, .ref (xad G 43))] [.ref (xad G 44), .ref (xad G 43)] q214
  refine x_putFR (k := 1) (N := 60) hC dX9_init_9 wfl_X9_7 (by decide) (by decide) (by decide) (by decide +kernel) (by decide) rfl rfl (by decide) ?_
  show xV G l mM_X9_init K 12 [(0, .ref (xad G 43))] [] q215
  refine x_aload_n hC dX9_init_12 rfl (j := 0) rfl <| x_bipush (v := (36 : Int32)) hC dX9_init_13 (by decide) <| ?_
  refine x_newa (t := 0) (N := 36) (ty := .int) hC dX9_init_15 rfl rfl (fun h => h) (by decide +kernel) (xmt_1 33 (by decide +kernel) (by decide +kernel)) (by decide) (by decide) (by decide) (fun _ => rfl) (by decide) (by decide +kernel) (by rw [← hE.2.1]; exact (by decide +kernel : q215.1 + 1 ≤ q402.1)) (by rw [← hE.2.2]; exact (by decide +kernel : xSz (q215.1 + 1) ≤ xSz q402.1)) ?_
  show xV G l mM_X9_init K 17 [(0, .ref (xad G 43))] [.ref (xad G 45), .ref (xad G 43)] q216
  refine x_putFR (k := 2) (N := 60) hC dX9_init_17 wfl_X9_13 (by decide) (by decide) (by decide) (by decide +kernel) (by decide) rfl rfl (by decide) ?_
  show xV G l mM_X9_init K 20 [(0, .ref (xad G 43))] [] q217
  refine x_aload_n hC dX9_init_20 rfl (j := 0) rfl <| x_bipush (v := (60 : Int32)) hC dX9_init_21 (by decide) <| ?_
  refine x_newa (t := 0) (N := 60) (ty := .int) hC dX9_init_23 rfl rfl (fun h => h) (by decide +kernel) (xmt_1 33 (by decide +kernel) (by decide +kernel)) (by decide) (by decide) (by decide) (fun _ => rfl) (by decide) (by decide +kernel) (by rw [← hE.2.1]; exact (by decide +kernel : q217.1 + 1 ≤ q402.1)) (by rw [← hE.2.2]; exact (by decide +kernel : xSz (q217.1 + 1) ≤ xSz q402.1)) ?_
  show xV G l mM_X9_init K 25 [(0, .ref (xad G 43))] [.ref (xad G 46), .ref (xad G 43)] q218
  refine x_dup hC dX9_init_25 rfl <| x_iconst (v := (0 : Int32)) hC dX9_init_26 (by decide) <| x_bipush (v := (8 : Int32)) hC dX9_init_27 (by decide) <| ?_
  refine x_iast (N := 60) hC dX9_init_29 (by decide) (by decide +kernel) (by decide) ?_
  show xV G l mM_X9_init K 30 [(0, .ref (xad G 43))] [.ref (xad G 46), .ref (xad G 43)] q219
  refine x_dup hC dX9_init_30 rfl <| x_iconst (v := (1 : Int32)) hC dX9_init_31 (by decide) <| x_bipush (v := (8 : Int32)) hC dX9_init_32 (by decide) <| ?_
  refine x_iast (N := 60) hC dX9_init_34 (by decide) (by decide +kernel) (by decide) ?_
  show xV G l mM_X9_init K 35 [(0, .ref (xad G 43))] [.ref (xad G 46), .ref (xad G 43)] q220
  refine x_dup hC dX9_init_35 rfl <| x_iconst (v := (2 : Int32)) hC dX9_init_36 (by decide) <| x_bipush (v := (8 : Int32)) hC dX9_init_37 (by decide) <| ?_
  refine x_iast (N := 60) hC dX9_init_39 (by decide) (by decide +kernel) (by decide) ?_
  show xV G l mM_X9_init K 40 [(0, .ref (xad G 43))] [.ref (xad G 46), .ref (xad G 43)] q221
  refine x_dup hC dX9_init_40 rfl <| x_iconst (v := (3 : Int32)) hC dX9_init_41 (by decide) <| x_bipush (v := (8 : Int32)) hC dX9_init_42 (by decide) <| ?_
  refine x_iast (N := 60) hC dX9_init_44 (by decide) (by decide +kernel) (by decide) ?_
  show xV G l mM_X9_init K 45 [(0, .ref (xad G 43))] [.ref (xad G 46), .ref (xad G 43)] q222
  refine x_dup hC dX9_init_45 rfl <| x_iconst (v := (4 : Int32)) hC dX9_init_46 (by decide) <| x_bipush (v := (8 : Int32)) hC dX9_init_47 (by decide) <| ?_
  refine x_iast (N := 60) hC dX9_init_49 (by decide) (by decide +kernel) (by decide) ?_
  show xV G l mM_X9_init K 50 [(0, .ref (xad G 43))] [.ref (xad G 46), .ref (xad G 43)] q223
  refine x_dup hC dX9_init_50 rfl <| x_iconst (v := (5 : Int32)) hC dX9_init_51 (by decide) <| x_bipush (v := (8 : Int32)) hC dX9_init_52 (by decide) <| ?_
  refine x_iast (N := 60) hC dX9_init_54 (by decide) (by decide +kernel) (by decide) ?_
  show xV G l mM_X9_init K 55 [(0, .ref (xad G 43))] [.ref (xad G 46), .ref (xad G 43)] q224
  refine x_dup hC dX9_init_55 rfl <| x_bipush (v := (6 : Int32)) hC dX9_init_56 (by decide) <| x_bipush (v := (8 : Int32)) hC dX9_init_58 (by decide) <| ?_
  refine x_iast (N := 60) hC dX9_init_60 (by decide) (by decide +kernel) (by decide) ?_
  show xV G l mM_X9_init K 61 [(0, .ref (xad G 43))] [.ref (xad G 46), .ref (xad G 43)] q225
  refine x_dup hC dX9_init_61 rfl <| x_bipush (v := (7 : Int32)) hC dX9_init_62 (by decide) <| x_bipush (v := (8 : Int32)) hC dX9_init_64 (by decide) <| ?_
  refine x_iast (N := 60) hC dX9_init_66 (by decide) (by decide +kernel) (by decide) ?_
  show xV G l mM_X9_init K 67 [(0, .ref (xad G 43))] [.ref (xad G 46), .ref (xad G 43)] q226
  refine x_dup hC dX9_init_67 rfl <| x_bipush (v := (8 : Int32)) hC dX9_init_68 (by decide) <| x_bipush (v := (8 : Int32)) hC dX9_init_70 (by decide) <| ?_
  refine x_iast (N := 60) hC dX9_init_72 (by decide) (by decide +kernel) (by decide) ?_
  show xV G l mM_X9_init K 73 [(0, .ref (xad G 43))] [.ref (xad G 46), .ref (xad G 43)] q227
  refine x_dup hC dX9_init_73 rfl <| x_bipush (v := (9 : Int32)) hC dX9_init_74 (by decide) <| x_bipush (v := (8 : Int32)) hC dX9_init_76 (by decide) <| ?_
  refine x_iast (N := 60) hC dX9_init_78 (by decide) (by decide +kernel) (by decide) ?_
  show xV G l mM_X9_init K 79 [(0, .ref (xad G 43))] [.ref (xad G 46), .ref (xad G 43)] q228
  refine x_dup hC dX9_init_79 rfl <| x_bipush (v := (10 : Int32)) hC dX9_init_80 (by decide) <| x_bipush (v := (8 : Int32)) hC dX9_init_82 (by decide) <| ?_
  refine x_iast (N := 60) hC dX9_init_84 (by decide) (by decide +kernel) (by decide) ?_
  show xV G l mM_X9_init K 85 [(0, .ref (xad G 43))] [.ref (xad G 46), .ref (xad G 43)] q229
  refine x_dup hC dX9_init_85 rfl <| x_bipush (v := (11 : Int32)) hC dX9_init_86 (by decide) <| x_bipush (v := (8 : Int32)) hC dX9_init_88 (by decide) <| ?_
  refine x_iast (N := 60) hC dX9_init_90 (by decide) (by decide +kernel) (by decide) ?_
  show xV G l mM_X9_init K 91 [(0, .ref (xad G 43))] [.ref (xad G 46), .ref (xad G 43)] q230
  refine x_dup hC dX9_init_91 rfl <| x_bipush (v := (12 : Int32)) hC dX9_init_92 (by decide) <| x_bipush (v := (8 : Int32)) hC dX9_init_94 (by decide) <| ?_
  refine x_iast (N := 60) hC dX9_init_96 (by decide) (by decide +kernel) (by decide) ?_
  show xV G l mM_X9_init K 97 [(0, .ref (xad G 43))] [.ref (xad G 46), .ref (xad G 43)] q231
  refine x_dup hC dX9_init_97 rfl <| x_bipush (v := (13 : Int32)) hC dX9_init_98 (by decide) <| x_bipush (v := (8 : Int32)) hC dX9_init_100 (by decide) <| ?_
  refine x_iast (N := 60) hC dX9_init_102 (by decide) (by decide +kernel) (by decide) ?_
  show xV G l mM_X9_init K 103 [(0, .ref (xad G 43))] [.ref (xad G 46), .ref (xad G 43)] q232
  refine x_dup hC dX9_init_103 rfl <| x_bipush (v := (14 : Int32)) hC dX9_init_104 (by decide) <| x_bipush (v := (8 : Int32)) hC dX9_init_106 (by decide) <| ?_
  refine x_iast (N := 60) hC dX9_init_108 (by decide) (by decide +kernel) (by decide) ?_
  show xV G l mM_X9_init K 109 [(0, .ref (xad G 43))] [.ref (xad G 46), .ref (xad G 43)] q233
  refine x_dup hC dX9_init_109 rfl <| x_bipush (v := (15 : Int32)) hC dX9_init_110 (by decide) <| x_bipush (v := (8 : Int32)) hC dX9_init_112 (by decide) <| ?_
  refine x_iast (N := 60) hC dX9_init_114 (by decide) (by decide +kernel) (by decide) ?_
  show xV G l mM_X9_init K 115 [(0, .ref (xad G 43))] [.ref (xad G 46), .ref (xad G 43)] q234
  refine x_dup hC dX9_init_115 rfl <| x_bipush (v := (16 : Int32)) hC dX9_init_116 (by decide) <| x_bipush (v := (8 : Int32)) hC dX9_init_118 (by decide) <| ?_
  refine x_iast (N := 60) hC dX9_init_120 (by decide) (by decide +kernel) (by decide) ?_
  show xV G l mM_X9_init K 121 [(0, .ref (xad G 43))] [.ref (xad G 46), .ref (xad G 43)] q235
  refine x_dup hC dX9_init_121 rfl <| x_bipush (v := (17 : Int32)) hC dX9_init_122 (by decide) <| x_bipush (v := (8 : Int32)) hC dX9_init_124 (by decide) <| ?_
  refine x_iast (N := 60) hC dX9_init_126 (by decide) (by decide +kernel) (by decide) ?_
  show xV G l mM_X9_init K 127 [(0, .ref (xad G 43))] [.ref (xad G 46), .ref (xad G 43)] q236
  refine x_dup hC dX9_init_127 rfl <| x_bipush (v := (18 : Int32)) hC dX9_init_128 (by decide) <| x_bipush (v := (8 : Int32)) hC dX9_init_130 (by decide) <| ?_
  refine x_iast (N := 60) hC dX9_init_132 (by decide) (by decide +kernel) (by decide) ?_
  show xV G l mM_X9_init K 133 [(0, .ref (xad G 43))] [.ref (xad G 46), .ref (xad G 43)] q237
  refine x_dup hC dX9_init_133 rfl <| x_bipush (v := (19 : Int32)) hC dX9_init_134 (by decide) <| x_bipush (v := (8 : Int32)) hC dX9_init_136 (by decide) <| ?_
  refine x_iast (N := 60) hC dX9_init_138 (by decide) (by decide +kernel) (by decide) ?_
  show xV G l mM_X9_init K 139 [(0, .ref (xad G 43))] [.ref (xad G 46), .ref (xad G 43)] q238
  refine x_dup hC dX9_init_139 rfl <| x_bipush (v := (20 : Int32)) hC dX9_init_140 (by decide) <| x_bipush (v := (8 : Int32)) hC dX9_init_142 (by decide) <| ?_
  refine x_iast (N := 60) hC dX9_init_144 (by decide) (by decide +kernel) (by decide) ?_
  show xV G l mM_X9_init K 145 [(0, .ref (xad G 43))] [.ref (xad G 46), .ref (xad G 43)] q239
  refine x_dup hC dX9_init_145 rfl <| x_bipush (v := (21 : Int32)) hC dX9_init_146 (by decide) <| x_bipush (v := (8 : Int32)) hC dX9_init_148 (by decide) <| ?_
  refine x_iast (N := 60) hC dX9_init_150 (by decide) (by decide +kernel) (by decide) ?_
  show xV G l mM_X9_init K 151 [(0, .ref (xad G 43))] [.ref (xad G 46), .ref (xad G 43)] q240
  refine x_dup hC dX9_init_151 rfl <| x_bipush (v := (22 : Int32)) hC dX9_init_152 (by decide) <| x_bipush (v := (8 : Int32)) hC dX9_init_154 (by decide) <| ?_
  refine x_iast (N := 60) hC dX9_init_156 (by decide) (by decide +kernel) (by decide) ?_
  show xV G l mM_X9_init K 157 [(0, .ref (xad G 43))] [.ref (xad G 46), .ref (xad G 43)] q241
  refine x_dup hC dX9_init_157 rfl <| x_bipush (v := (23 : Int32)) hC dX9_init_158 (by decide) <| x_bipush (v := (8 : Int32)) hC dX9_init_160 (by decide) <| ?_
  refine x_iast (N := 60) hC dX9_init_162 (by decide) (by decide +kernel) (by decide) ?_
  show xV G l mM_X9_init K 163 [(0, .ref (xad G 43))] [.ref (xad G 46), .ref (xad G 43)] q242
  refine x_dup hC dX9_init_163 rfl <| x_bipush (v := (24 : Int32)) hC dX9_init_164 (by decide) <| x_bipush (v := (8 : Int32)) hC dX9_init_166 (by decide) <| ?_
  refine x_iast (N := 60) hC dX9_init_168 (by decide) (by decide +kernel) (by decide) ?_
  show xV G l mM_X9_init K 169 [(0, .ref (xad G 43))] [.ref (xad G 46), .ref (xad G 43)] q243
  refine x_dup hC dX9_init_169 rfl <| x_bipush (v := (25 : Int32)) hC dX9_init_170 (by decide) <| x_bipush (v := (8 : Int32)) hC dX9_init_172 (by decide) <| ?_
  refine x_iast (N := 60) hC dX9_init_174 (by decide) (by decide +kernel) (by decide) ?_
  show xV G l mM_X9_init K 175 [(0, .ref (xad G 43))] [.ref (xad G 46), .ref (xad G 43)] q244
  refine x_dup hC dX9_init_175 rfl <| x_bipush (v := (26 : Int32)) hC dX9_init_176 (by decide) <| x_bipush (v := (8 : Int32)) hC dX9_init_178 (by decide) <| ?_
  refine x_iast (N := 60) hC dX9_init_180 (by decide) (by decide +kernel) (by decide) ?_
  show xV G l mM_X9_init K 181 [(0, .ref (xad G 43))] [.ref (xad G 46), .ref (xad G 43)] q245
  refine x_dup hC dX9_init_181 rfl <| x_bipush (v := (27 : Int32)) hC dX9_init_182 (by decide) <| x_bipush (v := (8 : Int32)) hC dX9_init_184 (by decide) <| ?_
  refine x_iast (N := 60) hC dX9_init_186 (by decide) (by decide +kernel) (by decide) ?_
  show xV G l mM_X9_init K 187 [(0, .ref (xad G 43))] [.ref (xad G 46), .ref (xad G 43)] q246
  refine x_dup hC dX9_init_187 rfl <| x_bipush (v := (28 : Int32)) hC dX9_init_188 (by decide) <| x_bipush (v := (8 : Int32)) hC dX9_init_190 (by decide) <| ?_
  refine x_iast (N := 60) hC dX9_init_192 (by decide) (by decide +kernel) (by decide) ?_
  show xV G l mM_X9_init K 193 [(0, .ref (xad G 43))] [.ref (xad G 46), .ref (xad G 43)] q247
  refine x_dup hC dX9_init_193 rfl <| x_bipush (v := (29 : Int32)) hC dX9_init_194 (by decide) <| x_bipush (v := (8 : Int32)) hC dX9_init_196 (by decide) <| ?_
  refine x_iast (N := 60) hC dX9_init_198 (by decide) (by decide +kernel) (by decide) ?_
  show xV G l mM_X9_init K 199 [(0, .ref (xad G 43))] [.ref (xad G 46), .ref (xad G 43)] q248
  refine x_dup hC dX9_init_199 rfl <| x_bipush (v := (30 : Int32)) hC dX9_init_200 (by decide) <| x_bipush (v := (8 : Int32)) hC dX9_init_202 (by decide) <| ?_
  refine x_iast (N := 60) hC dX9_init_204 (by decide) (by decide +kernel) (by decide) ?_
  show xV G l mM_X9_init K 205 [(0, .ref (xad G 43))] [.ref (xad G 46), .ref (xad G 43)] q249
  refine x_dup hC dX9_init_205 rfl <| x_bipush (v := (31 : Int32)) hC dX9_init_206 (by decide) <| x_bipush (v := (8 : Int32)) hC dX9_init_208 (by decide) <| ?_
  refine x_iast (N := 60) hC dX9_init_210 (by decide) (by decide +kernel) (by decide) ?_
  show xV G l mM_X9_init K 211 [(0, .ref (xad G 43))] [.ref (xad G 46), .ref (xad G 43)] q250
  refine x_dup hC dX9_init_211 rfl <| x_bipush (v := (32 : Int32)) hC dX9_init_212 (by decide) <| x_bipush (v := (8 : Int32)) hC dX9_init_214 (by decide) <| ?_
  refine x_iast (N := 60) hC dX9_init_216 (by decide) (by decide +kernel) (by decide) ?_
  show xV G l mM_X9_init K 217 [(0, .ref (xad G 43))] [.ref (xad G 46), .ref (xad G 43)] q251
  refine x_dup hC dX9_init_217 rfl <| x_bipush (v := (33 : Int32)) hC dX9_init_218 (by decide) <| x_bipush (v := (8 : Int32)) hC dX9_init_220 (by decide) <| ?_
  refine x_iast (N := 60) hC dX9_init_222 (by decide) (by decide +kernel) (by decide) ?_
  show xV G l mM_X9_init K 223 [(0, .ref (xad G 43))] [.ref (xad G 46), .ref (xad G 43)] q252
  refine x_dup hC dX9_init_223 rfl <| x_bipush (v := (34 : Int32)) hC dX9_init_224 (by decide) <| x_bipush (v := (8 : Int32)) hC dX9_init_226 (by decide) <| ?_
  refine x_iast (N := 60) hC dX9_init_228 (by decide) (by decide +kernel) (by decide) ?_
  show xV G l mM_X9_init K 229 [(0, .ref (xad G 43))] [.ref (xad G 46), .ref (xad G 43)] q253
  refine x_dup hC dX9_init_229 rfl <| x_bipush (v := (35 : Int32)) hC dX9_init_230 (by decide) <| x_bipush (v := (8 : Int32)) hC dX9_init_232 (by decide) <| ?_
  refine x_iast (N := 60) hC dX9_init_234 (by decide) (by decide +kernel) (by decide) ?_
  show xV G l mM_X9_init K 235 [(0, .ref (xad G 43))] [.ref (xad G 46), .ref (xad G 43)] q254
  refine x_dup hC dX9_init_235 rfl <| x_bipush (v := (36 : Int32)) hC dX9_init_236 (by decide) <| x_bipush (v := (8 : Int32)) hC dX9_init_238 (by decide) <| ?_
  refine x_iast (N := 60) hC dX9_init_240 (by decide) (by decide +kernel) (by decide) ?_
  show xV G l mM_X9_init K 241 [(0, .ref (xad G 43))] [.ref (xad G 46), .ref (xad G 43)] q255
  refine x_dup hC dX9_init_241 rfl <| x_bipush (v := (37 : Int32)) hC dX9_init_242 (by decide) <| x_bipush (v := (8 : Int32)) hC dX9_init_244 (by decide) <| ?_
  refine x_iast (N := 60) hC dX9_init_246 (by decide) (by decide +kernel) (by decide) ?_
  show xV G l mM_X9_init K 247 [(0, .ref (xad G 43))] [.ref (xad G 46), .ref (xad G 43)] q256
  refine x_dup hC dX9_init_247 rfl <| x_bipush (v := (38 : Int32)) hC dX9_init_248 (by decide) <| x_bipush (v := (8 : Int32)) hC dX9_init_250 (by decide) <| ?_
  refine x_iast (N := 60) hC dX9_init_252 (by decide) (by decide +kernel) (by decide) ?_
  show xV G l mM_X9_init K 253 [(0, .ref (xad G 43))] [.ref (xad G 46), .ref (xad G 43)] q257
  refine x_dup hC dX9_init_253 rfl <| x_bipush (v := (39 : Int32)) hC dX9_init_254 (by decide) <| x_bipush (v := (8 : Int32)) hC dX9_init_256 (by decide) <| ?_
  refine x_iast (N := 60) hC dX9_init_258 (by decide) (by decide +kernel) (by decide) ?_
  show xV G l mM_X9_init K 259 [(0, .ref (xad G 43))] [.ref (xad G 46), .ref (xad G 43)] q258
  refine x_dup hC dX9_init_259 rfl <| x_bipush (v := (40 : Int32)) hC dX9_init_260 (by decide) <| x_bipush (v := (8 : Int32)) hC dX9_init_262 (by decide) <| ?_
  refine x_iast (N := 60) hC dX9_init_264 (by decide) (by decide +kernel) (by decide) ?_
  show xV G l mM_X9_init K 265 [(0, .ref (xad G 43))] [.ref (xad G 46), .ref (xad G 43)] q259
  refine x_dup hC dX9_init_265 rfl <| x_bipush (v := (41 : Int32)) hC dX9_init_266 (by decide) <| x_bipush (v := (8 : Int32)) hC dX9_init_268 (by decide) <| ?_
  refine x_iast (N := 60) hC dX9_init_270 (by decide) (by decide +kernel) (by decide) ?_
  show xV G l mM_X9_init K 271 [(0, .ref (xad G 43))] [.ref (xad G 46), .ref (xad G 43)] q260
  refine x_dup hC dX9_init_271 rfl <| x_bipush (v := (42 : Int32)) hC dX9_init_272 (by decide) <| x_bipush (v := (8 : Int32)) hC dX9_init_274 (by decide) <| ?_
  refine x_iast (N := 60) hC dX9_init_276 (by decide) (by decide +kernel) (by decide) ?_
  show xV G l mM_X9_init K 277 [(0, .ref (xad G 43))] [.ref (xad G 46), .ref (xad G 43)] q261
  refine x_dup hC dX9_init_277 rfl <| x_bipush (v := (43 : Int32)) hC dX9_init_278 (by decide) <| x_bipush (v := (8 : Int32)) hC dX9_init_280 (by decide) <| ?_
  refine x_iast (N := 60) hC dX9_init_282 (by decide) (by decide +kernel) (by decide) ?_
  show xV G l mM_X9_init K 283 [(0, .ref (xad G 43))] [.ref (xad G 46), .ref (xad G 43)] q262
  refine x_dup hC dX9_init_283 rfl <| x_bipush (v := (44 : Int32)) hC dX9_init_284 (by decide) <| x_bipush (v := (8 : Int32)) hC dX9_init_286 (by decide) <| ?_
  refine x_iast (N := 60) hC dX9_init_288 (by decide) (by decide +kernel) (by decide) ?_
  show xV G l mM_X9_init K 289 [(0, .ref (xad G 43))] [.ref (xad G 46), .ref (xad G 43)] q263
  refine x_dup hC dX9_init_289 rfl <| x_bipush (v := (45 : Int32)) hC dX9_init_290 (by decide) <| x_bipush (v := (8 : Int32)) hC dX9_init_292 (by decide) <| ?_
  refine x_iast (N := 60) hC dX9_init_294 (by decide) (by decide +kernel) (by decide) ?_
  show xV G l mM_X9_init K 295 [(0, .ref (xad G 43))] [.ref (xad G 46), .ref (xad G 43)] q264
  refine x_dup hC dX9_init_295 rfl <| x_bipush (v := (46 : Int32)) hC dX9_init_296 (by decide) <| x_bipush (v := (8 : Int32)) hC dX9_init_298 (by decide) <| ?_
  refine x_iast (N := 60) hC dX9_init_300 (by decide) (by decide +kernel) (by decide) ?_
  show xV G l mM_X9_init K 301 [(0, .ref (xad G 43))] [.ref (xad G 46), .ref (xad G 43)] q265
  refine x_dup hC dX9_init_301 rfl <| x_bipush (v := (47 : Int32)) hC dX9_init_302 (by decide) <| x_bipush (v := (8 : Int32)) hC dX9_init_304 (by decide) <| ?_
  refine x_iast (N := 60) hC dX9_init_306 (by decide) (by decide +kernel) (by decide) ?_
  show xV G l mM_X9_init K 307 [(0, .ref (xad G 43))] [.ref (xad G 46), .ref (xad G 43)] q266
  refine x_dup hC dX9_init_307 rfl <| x_bipush (v := (48 : Int32)) hC dX9_init_308 (by decide) <| x_bipush (v := (8 : Int32)) hC dX9_init_310 (by decide) <| ?_
  refine x_iast (N := 60) hC dX9_init_312 (by decide) (by decide +kernel) (by decide) ?_
  show xV G l mM_X9_init K 313 [(0, .ref (xad G 43))] [.ref (xad G 46), .ref (xad G 43)] q267
  refine x_dup hC dX9_init_313 rfl <| x_bipush (v := (49 : Int32)) hC dX9_init_314 (by decide) <| x_bipush (v := (8 : Int32)) hC dX9_init_316 (by decide) <| ?_
  refine x_iast (N := 60) hC dX9_init_318 (by decide) (by decide +kernel) (by decide) ?_
  show xV G l mM_X9_init K 319 [(0, .ref (xad G 43))] [.ref (xad G 46), .ref (xad G 43)] q268
  refine x_dup hC dX9_init_319 rfl <| x_bipush (v := (50 : Int32)) hC dX9_init_320 (by decide) <| x_bipush (v := (8 : Int32)) hC dX9_init_322 (by decide) <| ?_
  refine x_iast (N := 60) hC dX9_init_324 (by decide) (by decide +kernel) (by decide) ?_
  show xV G l mM_X9_init K 325 [(0, .ref (xad G 43))] [.ref (xad G 46), .ref (xad G 43)] q269
  refine x_dup hC dX9_init_325 rfl <| x_bipush (v := (51 : Int32)) hC dX9_init_326 (by decide) <| x_bipush (v := (8 : Int32)) hC dX9_init_328 (by decide) <| ?_
  refine x_iast (N := 60) hC dX9_init_330 (by decide) (by decide +kernel) (by decide) ?_
  show xV G l mM_X9_init K 331 [(0, .ref (xad G 43))] [.ref (xad G 46), .ref (xad G 43)] q270
  refine x_dup hC dX9_init_331 rfl <| x_bipush (v := (52 : Int32)) hC dX9_init_332 (by decide) <| x_bipush (v := (8 : Int32)) hC dX9_init_334 (by decide) <| ?_
  refine x_iast (N := 60) hC dX9_init_336 (by decide) (by decide +kernel) (by decide) ?_
  show xV G l mM_X9_init K 337 [(0, .ref (xad G 43))] [.ref (xad G 46), .ref (xad G 43)] q271
  refine x_dup hC dX9_init_337 rfl <| x_bipush (v := (53 : Int32)) hC dX9_init_338 (by decide) <| x_bipush (v := (8 : Int32)) hC dX9_init_340 (by decide) <| ?_
  refine x_iast (N := 60) hC dX9_init_342 (by decide) (by decide +kernel) (by decide) ?_
  show xV G l mM_X9_init K 343 [(0, .ref (xad G 43))] [.ref (xad G 46), .ref (xad G 43)] q272
  refine x_dup hC dX9_init_343 rfl <| x_bipush (v := (54 : Int32)) hC dX9_init_344 (by decide) <| x_bipush (v := (8 : Int32)) hC dX9_init_346 (by decide) <| ?_
  refine x_iast (N := 60) hC dX9_init_348 (by decide) (by decide +kernel) (by decide) ?_
  show xV G l mM_X9_init K 349 [(0, .ref (xad G 43))] [.ref (xad G 46), .ref (xad G 43)] q273
  refine x_dup hC dX9_init_349 rfl <| x_bipush (v := (55 : Int32)) hC dX9_init_350 (by decide) <| x_bipush (v := (8 : Int32)) hC dX9_init_352 (by decide) <| ?_
  refine x_iast (N := 60) hC dX9_init_354 (by decide) (by decide +kernel) (by decide) ?_
  show xV G l mM_X9_init K 355 [(0, .ref (xad G 43))] [.ref (xad G 46), .ref (xad G 43)] q274
  refine x_dup hC dX9_init_355 rfl <| x_bipush (v := (56 : Int32)) hC dX9_init_356 (by decide) <| x_bipush (v := (8 : Int32)) hC dX9_init_358 (by decide) <| ?_
  refine x_iast (N := 60) hC dX9_init_360 (by decide) (by decide +kernel) (by decide) ?_
  show xV G l mM_X9_init K 361 [(0, .ref (xad G 43))] [.ref (xad G 46), .ref (xad G 43)] q275
  refine x_dup hC dX9_init_361 rfl <| x_bipush (v := (57 : Int32)) hC dX9_init_362 (by decide) <| x_bipush (v := (8 : Int32)) hC dX9_init_364 (by decide) <| ?_
  refine x_iast (N := 60) hC dX9_init_366 (by decide) (by decide +kernel) (by decide) ?_
  show xV G l mM_X9_init K 367 [(0, .ref (xad G 43))] [.ref (xad G 46), .ref (xad G 43)] q276
  refine x_dup hC dX9_init_367 rfl <| x_bipush (v := (58 : Int32)) hC dX9_init_368 (by decide) <| x_bipush (v := (8 : Int32)) hC dX9_init_370 (by decide) <| ?_
  refine x_iast (N := 60) hC dX9_init_372 (by decide) (by decide +kernel) (by decide) ?_
  show xV G l mM_X9_init K 373 [(0, .ref (xad G 43))] [.ref (xad G 46), .ref (xad G 43)] q277
  refine x_dup hC dX9_init_373 rfl <| x_bipush (v := (59 : Int32)) hC dX9_init_374 (by decide) <| x_bipush (v := (8 : Int32)) hC dX9_init_376 (by decide) <| ?_
  refine x_iast (N := 60) hC dX9_init_378 (by decide) (by decide +kernel) (by decide) ?_
  show xV G l mM_X9_init K 379 [(0, .ref (xad G 43))] [.ref (xad G 46), .ref (xad G 43)] q278
  refine x_putFR (k := 3) (N := 60) hC dX9_init_379 wfl_X9_16 (by decide) (by decide) (by decide) (by decide +kernel) (by decide) rfl rfl (by decide) ?_
  show xV G l mM_X9_init K 382 [(0, .ref (xad G 43))] [] q279
  refine x_aload_n hC dX9_init_382 rfl (j := 0) rfl <| x_bipush (v := (60 : Int32)) hC dX9_init_383 (by decide) <| ?_
  refine x_newa (t := 0) (N := 60) (ty := .int) hC dX9_init_385 rfl rfl (fun h => h) (by decide +kernel) (xmt_1 33 (by decide +kernel) (by decide +kernel)) (by decide) (by decide) (by decide) (fun _ => rfl) (by decide) (by decide +kernel) (by rw [← hE.2.1]; exact (by decide +kernel : q279.1 + 1 ≤ q402.1)) (by rw [← hE.2.2]; exact (by decide +kernel : xSz (q279.1 + 1) ≤ xSz q402.1)) ?_
  show xV G l mM_X9_init K 387 [(0, .ref (xad G 43))] [.ref (xad G 47), .ref (xad G 43)] q280
  refine x_dup hC dX9_init_387 rfl <| x_iconst (v := (0 : Int32)) hC dX9_init_388 (by decide) <| x_iconst (v := (3 : Int32)) hC dX9_init_389 (by decide) <| ?_
  refine x_iast (N := 60) hC dX9_init_390 (by decide) (by decide +kernel) (by decide) ?_
  show xV G l mM_X9_init K 391 [(0, .ref (xad G 43))] [.ref (xad G 47), .ref (xad G 43)] q281
  refine x_dup hC dX9_init_391 rfl <| x_iconst (v := (1 : Int32)) hC dX9_init_392 (by decide) <| x_iconst (v := (3 : Int32)) hC dX9_init_393 (by decide) <| ?_
  refine x_iast (N := 60) hC dX9_init_394 (by decide) (by decide +kernel) (by decide) ?_
  show xV G l mM_X9_init K 395 [(0, .ref (xad G 43))] [.ref (xad G 47), .ref (xad G 43)] q282
  refine x_dup hC dX9_init_395 rfl <| x_iconst (v := (2 : Int32)) hC dX9_init_396 (by decide) <| x_iconst (v := (3 : Int32)) hC dX9_init_397 (by decide) <| ?_
  refine x_iast (N := 60) hC dX9_init_398 (by decide) (by decide +kernel) (by decide) ?_
  show xV G l mM_X9_init K 399 [(0, .ref (xad G 43))] [.ref (xad G 47), .ref (xad G 43)] q283
  refine x_dup hC dX9_init_399 rfl <| x_iconst (v := (3 : Int32)) hC dX9_init_400 (by decide) <| x_iconst (v := (3 : Int32)) hC dX9_init_401 (by decide) <| ?_
  refine x_iast (N := 60) hC dX9_init_402 (by decide) (by decide +kernel) (by decide) ?_
  show xV G l mM_X9_init K 403 [(0, .ref (xad G 43))] [.ref (xad G 47), .ref (xad G 43)] q284
  refine x_dup hC dX9_init_403 rfl <| x_iconst (v := (4 : Int32)) hC dX9_init_404 (by decide) <| x_iconst (v := (3 : Int32)) hC dX9_init_405 (by decide) <| ?_
  refine x_iast (N := 60) hC dX9_init_406 (by decide) (by decide +kernel) (by decide) ?_
  show xV G l mM_X9_init K 407 [(0, .ref (xad G 43))] [.ref (xad G 47), .ref (xad G 43)] q285
  refine x_dup hC dX9_init_407 rfl <| x_iconst (v := (5 : Int32)) hC dX9_init_408 (by decide) <| x_iconst (v := (3 : Int32)) hC dX9_init_409 (by decide) <| ?_
  refine x_iast (N := 60) hC dX9_init_410 (by decide) (by decide +kernel) (by decide) ?_
  show xV G l mM_X9_init K 411 [(0, .ref (xad G 43))] [.ref (xad G 47), .ref (xad G 43)] q286
  refine x_dup hC dX9_init_411 rfl <| x_bipush (v := (6 : Int32)) hC dX9_init_412 (by decide) <| x_iconst (v := (3 : Int32)) hC dX9_init_414 (by decide) <| ?_
  refine x_iast (N := 60) hC dX9_init_415 (by decide) (by decide +kernel) (by decide) ?_
  show xV G l mM_X9_init K 416 [(0, .ref (xad G 43))] [.ref (xad G 47), .ref (xad G 43)] q287
  refine x_dup hC dX9_init_416 rfl <| x_bipush (v := (7 : Int32)) hC dX9_init_417 (by decide) <| x_iconst (v := (3 : Int32)) hC dX9_init_419 (by decide) <| ?_
  refine x_iast (N := 60) hC dX9_init_420 (by decide) (by decide +kernel) (by decide) ?_
  show xV G l mM_X9_init K 421 [(0, .ref (xad G 43))] [.ref (xad G 47), .ref (xad G 43)] q288
  refine x_dup hC dX9_init_421 rfl <| x_bipush (v := (8 : Int32)) hC dX9_init_422 (by decide) <| x_iconst (v := (3 : Int32)) hC dX9_init_424 (by decide) <| ?_
  refine x_iast (N := 60) hC dX9_init_425 (by decide) (by decide +kernel) (by decide) ?_
  show xV G l mM_X9_init K 426 [(0, .ref (xad G 43))] [.ref (xad G 47), .ref (xad G 43)] q289
  refine x_dup hC dX9_init_426 rfl <| x_bipush (v := (9 : Int32)) hC dX9_init_427 (by decide) <| x_iconst (v := (3 : Int32)) hC dX9_init_429 (by decide) <| ?_
  refine x_iast (N := 60) hC dX9_init_430 (by decide) (by decide +kernel) (by decide) ?_
  show xV G l mM_X9_init K 431 [(0, .ref (xad G 43))] [.ref (xad G 47), .ref (xad G 43)] q290
  refine x_dup hC dX9_init_431 rfl <| x_bipush (v := (10 : Int32)) hC dX9_init_432 (by decide) <| x_iconst (v := (3 : Int32)) hC dX9_init_434 (by decide) <| ?_
  refine x_iast (N := 60) hC dX9_init_435 (by decide) (by decide +kernel) (by decide) ?_
  show xV G l mM_X9_init K 436 [(0, .ref (xad G 43))] [.ref (xad G 47), .ref (xad G 43)] q291
  refine x_dup hC dX9_init_436 rfl <| x_bipush (v := (11 : Int32)) hC dX9_init_437 (by decide) <| x_iconst (v := (3 : Int32)) hC dX9_init_439 (by decide) <| ?_
  refine x_iast (N := 60) hC dX9_init_440 (by decide) (by decide +kernel) (by decide) ?_
  show xV G l mM_X9_init K 441 [(0, .ref (xad G 43))] [.ref (xad G 47), .ref (xad G 43)] q292
  refine x_dup hC dX9_init_441 rfl <| x_bipush (v := (12 : Int32)) hC dX9_init_442 (by decide) <| x_iconst (v := (3 : Int32)) hC dX9_init_444 (by decide) <| ?_
  refine x_iast (N := 60) hC dX9_init_445 (by decide) (by decide +kernel) (by decide) ?_
  show xV G l mM_X9_init K 446 [(0, .ref (xad G 43))] [.ref (xad G 47), .ref (xad G 43)] q293
  refine x_dup hC dX9_init_446 rfl <| x_bipush (v := (13 : Int32)) hC dX9_init_447 (by decide) <| x_iconst (v := (3 : Int32)) hC dX9_init_449 (by decide) <| ?_
  refine x_iast (N := 60) hC dX9_init_450 (by decide) (by decide +kernel) (by decide) ?_
  show xV G l mM_X9_init K 451 [(0, .ref (xad G 43))] [.ref (xad G 47), .ref (xad G 43)] q294
  refine x_dup hC dX9_init_451 rfl <| x_bipush (v := (14 : Int32)) hC dX9_init_452 (by decide) <| x_iconst (v := (3 : Int32)) hC dX9_init_454 (by decide) <| ?_
  refine x_iast (N := 60) hC dX9_init_455 (by decide) (by decide +kernel) (by decide) ?_
  show xV G l mM_X9_init K 456 [(0, .ref (xad G 43))] [.ref (xad G 47), .ref (xad G 43)] q295
  refine x_dup hC dX9_init_456 rfl <| x_bipush (v := (15 : Int32)) hC dX9_init_457 (by decide) <| x_iconst (v := (3 : Int32)) hC dX9_init_459 (by decide) <| ?_
  refine x_iast (N := 60) hC dX9_init_460 (by decide) (by decide +kernel) (by decide) ?_
  show xV G l mM_X9_init K 461 [(0, .ref (xad G 43))] [.ref (xad G 47), .ref (xad G 43)] q296
  refine x_dup hC dX9_init_461 rfl <| x_bipush (v := (16 : Int32)) hC dX9_init_462 (by decide) <| x_iconst (v := (3 : Int32)) hC dX9_init_464 (by decide) <| ?_
  refine x_iast (N := 60) hC dX9_init_465 (by decide) (by decide +kernel) (by decide) ?_
  show xV G l mM_X9_init K 466 [(0, .ref (xad G 43))] [.ref (xad G 47), .ref (xad G 43)] q297
  refine x_dup hC dX9_init_466 rfl <| x_bipush (v := (17 : Int32)) hC dX9_init_467 (by decide) <| x_iconst (v := (3 : Int32)) hC dX9_init_469 (by decide) <| ?_
  refine x_iast (N := 60) hC dX9_init_470 (by decide) (by decide +kernel) (by decide) ?_
  show xV G l mM_X9_init K 471 [(0, .ref (xad G 43))] [.ref (xad G 47), .ref (xad G 43)] q298
  refine x_dup hC dX9_init_471 rfl <| x_bipush (v := (18 : Int32)) hC dX9_init_472 (by decide) <| x_iconst (v := (3 : Int32)) hC dX9_init_474 (by decide) <| ?_
  refine x_iast (N := 60) hC dX9_init_475 (by decide) (by decide +kernel) (by decide) ?_
  show xV G l mM_X9_init K 476 [(0, .ref (xad G 43))] [.ref (xad G 47), .ref (xad G 43)] q299
  refine x_dup hC dX9_init_476 rfl <| x_bipush (v := (19 : Int32)) hC dX9_init_477 (by decide) <| x_iconst (v := (3 : Int32)) hC dX9_init_479 (by decide) <| ?_
  refine x_iast (N := 60) hC dX9_init_480 (by decide) (by decide +kernel) (by decide) ?_
  show xV G l mM_X9_init K 481 [(0, .ref (xad G 43))] [.ref (xad G 47), .ref (xad G 43)] q300
  refine x_dup hC dX9_init_481 rfl <| x_bipush (v := (20 : Int32)) hC dX9_init_482 (by decide) <| x_iconst (v := (3 : Int32)) hC dX9_init_484 (by decide) <| ?_
  refine x_iast (N := 60) hC dX9_init_485 (by decide) (by decide +kernel) (by decide) ?_
  show xV G l mM_X9_init K 486 [(0, .ref (xad G 43))] [.ref (xad G 47), .ref (xad G 43)] q301
  refine x_dup hC dX9_init_486 rfl <| x_bipush (v := (21 : Int32)) hC dX9_init_487 (by decide) <| x_iconst (v := (3 : Int32)) hC dX9_init_489 (by decide) <| ?_
  refine x_iast (N := 60) hC dX9_init_490 (by decide) (by decide +kernel) (by decide) ?_
  show xV G l mM_X9_init K 491 [(0, .ref (xad G 43))] [.ref (xad G 47), .ref (xad G 43)] q302
  refine x_dup hC dX9_init_491 rfl <| x_bipush (v := (22 : Int32)) hC dX9_init_492 (by decide) <| x_iconst (v := (3 : Int32)) hC dX9_init_494 (by decide) <| ?_
  refine x_iast (N := 60) hC dX9_init_495 (by decide) (by decide +kernel) (by decide) ?_
  show xV G l mM_X9_init K 496 [(0, .ref (xad G 43))] [.ref (xad G 47), .ref (xad G 43)] q303
  refine x_dup hC dX9_init_496 rfl <| x_bipush (v := (23 : Int32)) hC dX9_init_497 (by decide) <| x_iconst (v := (3 : Int32)) hC dX9_init_499 (by decide) <| ?_
  refine x_iast (N := 60) hC dX9_init_500 (by decide) (by decide +kernel) (by decide) ?_
  show xV G l mM_X9_init K 501 [(0, .ref (xad G 43))] [.ref (xad G 47), .ref (xad G 43)] q304
  refine x_dup hC dX9_init_501 rfl <| x_bipush (v := (24 : Int32)) hC dX9_init_502 (by decide) <| x_iconst (v := (3 : Int32)) hC dX9_init_504 (by decide) <| ?_
  refine x_iast (N := 60) hC dX9_init_505 (by decide) (by decide +kernel) (by decide) ?_
  show xV G l mM_X9_init K 506 [(0, .ref (xad G 43))] [.ref (xad G 47), .ref (xad G 43)] q305
  refine x_dup hC dX9_init_506 rfl <| x_bipush (v := (25 : Int32)) hC dX9_init_507 (by decide) <| x_iconst (v := (3 : Int32)) hC dX9_init_509 (by decide) <| ?_
  refine x_iast (N := 60) hC dX9_init_510 (by decide) (by decide +kernel) (by decide) ?_
  show xV G l mM_X9_init K 511 [(0, .ref (xad G 43))] [.ref (xad G 47), .ref (xad G 43)] q306
  refine x_dup hC dX9_init_511 rfl <| x_bipush (v := (26 : Int32)) hC dX9_init_512 (by decide) <| x_iconst (v := (3 : Int32)) hC dX9_init_514 (by decide) <| ?_
  refine x_iast (N := 60) hC dX9_init_515 (by decide) (by decide +kernel) (by decide) ?_
  show xV G l mM_X9_init K 516 [(0, .ref (xad G 43))] [.ref (xad G 47), .ref (xad G 43)] q307
  refine x_dup hC dX9_init_516 rfl <| x_bipush (v := (27 : Int32)) hC dX9_init_517 (by decide) <| x_iconst (v := (3 : Int32)) hC dX9_init_519 (by decide) <| ?_
  refine x_iast (N := 60) hC dX9_init_520 (by decide) (by decide +kernel) (by decide) ?_
  show xV G l mM_X9_init K 521 [(0, .ref (xad G 43))] [.ref (xad G 47), .ref (xad G 43)] q308
  refine x_dup hC dX9_init_521 rfl <| x_bipush (v := (28 : Int32)) hC dX9_init_522 (by decide) <| x_iconst (v := (3 : Int32)) hC dX9_init_524 (by decide) <| ?_
  refine x_iast (N := 60) hC dX9_init_525 (by decide) (by decide +kernel) (by decide) ?_
  show xV G l mM_X9_init K 526 [(0, .ref (xad G 43))] [.ref (xad G 47), .ref (xad G 43)] q309
  refine x_dup hC dX9_init_526 rfl <| x_bipush (v := (29 : Int32)) hC dX9_init_527 (by decide) <| x_iconst (v := (3 : Int32)) hC dX9_init_529 (by decide) <| ?_
  refine x_iast (N := 60) hC dX9_init_530 (by decide) (by decide +kernel) (by decide) ?_
  show xV G l mM_X9_init K 531 [(0, .ref (xad G 43))] [.ref (xad G 47), .ref (xad G 43)] q310
  refine x_dup hC dX9_init_531 rfl <| x_bipush (v := (30 : Int32)) hC dX9_init_532 (by decide) <| x_iconst (v := (3 : Int32)) hC dX9_init_534 (by decide) <| ?_
  refine x_iast (N := 60) hC dX9_init_535 (by decide) (by decide +kernel) (by decide) ?_
  show xV G l mM_X9_init K 536 [(0, .ref (xad G 43))] [.ref (xad G 47), .ref (xad G 43)] q311
  refine x_dup hC dX9_init_536 rfl <| x_bipush (v := (31 : Int32)) hC dX9_init_537 (by decide) <| x_iconst (v := (3 : Int32)) hC dX9_init_539 (by decide) <| ?_
  refine x_iast (N := 60) hC dX9_init_540 (by decide) (by decide +kernel) (by decide) ?_
  show xV G l mM_X9_init K 541 [(0, .ref (xad G 43))] [.ref (xad G 47), .ref (xad G 43)] q312
  refine x_dup hC dX9_init_541 rfl <| x_bipush (v := (32 : Int32)) hC dX9_init_542 (by decide) <| x_iconst (v := (3 : Int32)) hC dX9_init_544 (by decide) <| ?_
  refine x_iast (N := 60) hC dX9_init_545 (by decide) (by decide +kernel) (by decide) ?_
  show xV G l mM_X9_init K 546 [(0, .ref (xad G 43))] [.ref (xad G 47), .ref (xad G 43)] q313
  refine x_dup hC dX9_init_546 rfl <| x_bipush (v := (33 : Int32)) hC dX9_init_547 (by decide) <| x_iconst (v := (3 : Int32)) hC dX9_init_549 (by decide) <| ?_
  refine x_iast (N := 60) hC dX9_init_550 (by decide) (by decide +kernel) (by decide) ?_
  show xV G l mM_X9_init K 551 [(0, .ref (xad G 43))] [.ref (xad G 47), .ref (xad G 43)] q314
  refine x_dup hC dX9_init_551 rfl <| x_bipush (v := (34 : Int32)) hC dX9_init_552 (by decide) <| x_iconst (v := (3 : Int32)) hC dX9_init_554 (by decide) <| ?_
  refine x_iast (N := 60) hC dX9_init_555 (by decide) (by decide +kernel) (by decide) ?_
  show xV G l mM_X9_init K 556 [(0, .ref (xad G 43))] [.ref (xad G 47), .ref (xad G 43)] q315
  refine x_dup hC dX9_init_556 rfl <| x_bipush (v := (35 : Int32)) hC dX9_init_557 (by decide) <| x_iconst (v := (3 : Int32)) hC dX9_init_559 (by decide) <| ?_
  refine x_iast (N := 60) hC dX9_init_560 (by decide) (by decide +kernel) (by decide) ?_
  show xV G l mM_X9_init K 561 [(0, .ref (xad G 43))] [.ref (xad G 47), .ref (xad G 43)] q316
  refine x_dup hC dX9_init_561 rfl <| x_bipush (v := (36 : Int32)) hC dX9_init_562 (by decide) <| x_iconst (v := (3 : Int32)) hC dX9_init_564 (by decide) <| ?_
  refine x_iast (N := 60) hC dX9_init_565 (by decide) (by decide +kernel) (by decide) ?_
  show xV G l mM_X9_init K 566 [(0, .ref (xad G 43))] [.ref (xad G 47), .ref (xad G 43)] q317
  refine x_dup hC dX9_init_566 rfl <| x_bipush (v := (37 : Int32)) hC dX9_init_567 (by decide) <| x_iconst (v := (3 : Int32)) hC dX9_init_569 (by decide) <| ?_
  refine x_iast (N := 60) hC dX9_init_570 (by decide) (by decide +kernel) (by decide) ?_
  show xV G l mM_X9_init K 571 [(0, .ref (xad G 43))] [.ref (xad G 47), .ref (xad G 43)] q318
  refine x_dup hC dX9_init_571 rfl <| x_bipush (v := (38 : Int32)) hC dX9_init_572 (by decide) <| x_iconst (v := (3 : Int32)) hC dX9_init_574 (by decide) <| ?_
  refine x_iast (N := 60) hC dX9_init_575 (by decide) (by decide +kernel) (by decide) ?_
  show xV G l mM_X9_init K 576 [(0, .ref (xad G 43))] [.ref (xad G 47), .ref (xad G 43)] q319
  refine x_dup hC dX9_init_576 rfl <| x_bipush (v := (39 : Int32)) hC dX9_init_577 (by decide) <| x_iconst (v := (3 : Int32)) hC dX9_init_579 (by decide) <| ?_
  refine x_iast (N := 60) hC dX9_init_580 (by decide) (by decide +kernel) (by decide) ?_
  show xV G l mM_X9_init K 581 [(0, .ref (xad G 43))] [.ref (xad G 47), .ref (xad G 43)] q320
  refine x_dup hC dX9_init_581 rfl <| x_bipush (v := (40 : Int32)) hC dX9_init_582 (by decide) <| x_iconst (v := (3 : Int32)) hC dX9_init_584 (by decide) <| ?_
  refine x_iast (N := 60) hC dX9_init_585 (by decide) (by decide +kernel) (by decide) ?_
  show xV G l mM_X9_init K 586 [(0, .ref (xad G 43))] [.ref (xad G 47), .ref (xad G 43)] q321
  refine x_dup hC dX9_init_586 rfl <| x_bipush (v := (41 : Int32)) hC dX9_init_587 (by decide) <| x_iconst (v := (3 : Int32)) hC dX9_init_589 (by decide) <| ?_
  refine x_iast (N := 60) hC dX9_init_590 (by decide) (by decide +kernel) (by decide) ?_
  show xV G l mM_X9_init K 591 [(0, .ref (xad G 43))] [.ref (xad G 47), .ref (xad G 43)] q322
  refine x_dup hC dX9_init_591 rfl <| x_bipush (v := (42 : Int32)) hC dX9_init_592 (by decide) <| x_iconst (v := (3 : Int32)) hC dX9_init_594 (by decide) <| ?_
  refine x_iast (N := 60) hC dX9_init_595 (by decide) (by decide +kernel) (by decide) ?_
  show xV G l mM_X9_init K 596 [(0, .ref (xad G 43))] [.ref (xad G 47), .ref (xad G 43)] q323
  refine x_dup hC dX9_init_596 rfl <| x_bipush (v := (43 : Int32)) hC dX9_init_597 (by decide) <| x_iconst (v := (3 : Int32)) hC dX9_init_599 (by decide) <| ?_
  refine x_iast (N := 60) hC dX9_init_600 (by decide) (by decide +kernel) (by decide) ?_
  show xV G l mM_X9_init K 601 [(0, .ref (xad G 43))] [.ref (xad G 47), .ref (xad G 43)] q324
  refine x_dup hC dX9_init_601 rfl <| x_bipush (v := (44 : Int32)) hC dX9_init_602 (by decide) <| x_iconst (v := (3 : Int32)) hC dX9_init_604 (by decide) <| ?_
  refine x_iast (N := 60) hC dX9_init_605 (by decide) (by decide +kernel) (by decide) ?_
  show xV G l mM_X9_init K 606 [(0, .ref (xad G 43))] [.ref (xad G 47), .ref (xad G 43)] q325
  refine x_dup hC dX9_init_606 rfl <| x_bipush (v := (45 : Int32)) hC dX9_init_607 (by decide) <| x_iconst (v := (3 : Int32)) hC dX9_init_609 (by decide) <| ?_
  refine x_iast (N := 60) hC dX9_init_610 (by decide) (by decide +kernel) (by decide) ?_
  show xV G l mM_X9_init K 611 [(0, .ref (xad G 43))] [.ref (xad G 47), .ref (xad G 43)] q326
  refine x_dup hC dX9_init_611 rfl <| x_bipush (v := (46 : Int32)) hC dX9_init_612 (by decide) <| x_iconst (v := (3 : Int32)) hC dX9_init_614 (by decide) <| ?_
  refine x_iast (N := 60) hC dX9_init_615 (by decide) (by decide +kernel) (by decide) ?_
  show xV G l mM_X9_init K 616 [(0, .ref (xad G 43))] [.ref (xad G 47), .ref (xad G 43)] q327
  refine x_dup hC dX9_init_616 rfl <| x_bipush (v := (47 : Int32)) hC dX9_init_617 (by decide) <| x_iconst (v := (3 : Int32)) hC dX9_init_619 (by decide) <| ?_
  refine x_iast (N := 60) hC dX9_init_620 (by decide) (by decide +kernel) (by decide) ?_
  show xV G l mM_X9_init K 621 [(0, .ref (xad G 43))] [.ref (xad G 47), .ref (xad G 43)] q328
  refine x_dup hC dX9_init_621 rfl <| x_bipush (v := (48 : Int32)) hC dX9_init_622 (by decide) <| x_iconst (v := (3 : Int32)) hC dX9_init_624 (by decide) <| ?_
  refine x_iast (N := 60) hC dX9_init_625 (by decide) (by decide +kernel) (by decide) ?_
  show xV G l mM_X9_init K 626 [(0, .ref (xad G 43))] [.ref (xad G 47), .ref (xad G 43)] q329
  refine x_dup hC dX9_init_626 rfl <| x_bipush (v := (49 : Int32)) hC dX9_init_627 (by decide) <| x_iconst (v := (3 : Int32)) hC dX9_init_629 (by decide) <| ?_
  refine x_iast (N := 60) hC dX9_init_630 (by decide) (by decide +kernel) (by decide) ?_
  show xV G l mM_X9_init K 631 [(0, .ref (xad G 43))] [.ref (xad G 47), .ref (xad G 43)] q330
  refine x_dup hC dX9_init_631 rfl <| x_bipush (v := (50 : Int32)) hC dX9_init_632 (by decide) <| x_iconst (v := (3 : Int32)) hC dX9_init_634 (by decide) <| ?_
  refine x_iast (N := 60) hC dX9_init_635 (by decide) (by decide +kernel) (by decide) ?_
  show xV G l mM_X9_init K 636 [(0, .ref (xad G 43))] [.ref (xad G 47), .ref (xad G 43)] q331
  refine x_dup hC dX9_init_636 rfl <| x_bipush (v := (51 : Int32)) hC dX9_init_637 (by decide) <| x_iconst (v := (3 : Int32)) hC dX9_init_639 (by decide) <| ?_
  refine x_iast (N := 60) hC dX9_init_640 (by decide) (by decide +kernel) (by decide) ?_
  show xV G l mM_X9_init K 641 [(0, .ref (xad G 43))] [.ref (xad G 47), .ref (xad G 43)] q332
  refine x_dup hC dX9_init_641 rfl <| x_bipush (v := (52 : Int32)) hC dX9_init_642 (by decide) <| x_iconst (v := (3 : Int32)) hC dX9_init_644 (by decide) <| ?_
  refine x_iast (N := 60) hC dX9_init_645 (by decide) (by decide +kernel) (by decide) ?_
  show xV G l mM_X9_init K 646 [(0, .ref (xad G 43))] [.ref (xad G 47), .ref (xad G 43)] q333
  refine x_dup hC dX9_init_646 rfl <| x_bipush (v := (53 : Int32)) hC dX9_init_647 (by decide) <| x_iconst (v := (3 : Int32)) hC dX9_init_649 (by decide) <| ?_
  refine x_iast (N := 60) hC dX9_init_650 (by decide) (by decide +kernel) (by decide) ?_
  show xV G l mM_X9_init K 651 [(0, .ref (xad G 43))] [.ref (xad G 47), .ref (xad G 43)] q334
  refine x_dup hC dX9_init_651 rfl <| x_bipush (v := (54 : Int32)) hC dX9_init_652 (by decide) <| x_iconst (v := (3 : Int32)) hC dX9_init_654 (by decide) <| ?_
  refine x_iast (N := 60) hC dX9_init_655 (by decide) (by decide +kernel) (by decide) ?_
  show xV G l mM_X9_init K 656 [(0, .ref (xad G 43))] [.ref (xad G 47), .ref (xad G 43)] q335
  refine x_dup hC dX9_init_656 rfl <| x_bipush (v := (55 : Int32)) hC dX9_init_657 (by decide) <| x_iconst (v := (3 : Int32)) hC dX9_init_659 (by decide) <| ?_
  refine x_iast (N := 60) hC dX9_init_660 (by decide) (by decide +kernel) (by decide) ?_
  show xV G l mM_X9_init K 661 [(0, .ref (xad G 43))] [.ref (xad G 47), .ref (xad G 43)] q336
  refine x_dup hC dX9_init_661 rfl <| x_bipush (v := (56 : Int32)) hC dX9_init_662 (by decide) <| x_iconst (v := (3 : Int32)) hC dX9_init_664 (by decide) <| ?_
  refine x_iast (N := 60) hC dX9_init_665 (by decide) (by decide +kernel) (by decide) ?_
  show xV G l mM_X9_init K 666 [(0, .ref (xad G 43))] [.ref (xad G 47), .ref (xad G 43)] q337
  refine x_dup hC dX9_init_666 rfl <| x_bipush (v := (57 : Int32)) hC dX9_init_667 (by decide) <| x_iconst (v := (3 : Int32)) hC dX9_init_669 (by decide) <| ?_
  refine x_iast (N := 60) hC dX9_init_670 (by decide) (by decide +kernel) (by decide) ?_
  show xV G l mM_X9_init K 671 [(0, .ref (xad G 43))] [.ref (xad G 47), .ref (xad G 43)] q338
  refine x_dup hC dX9_init_671 rfl <| x_bipush (v := (58 : Int32)) hC dX9_init_672 (by decide) <| x_iconst (v := (3 : Int32)) hC dX9_init_674 (by decide) <| ?_
  refine x_iast (N := 60) hC dX9_init_675 (by decide) (by decide +kernel) (by decide) ?_
  show xV G l mM_X9_init K 676 [(0, .ref (xad G 43))] [.ref (xad G 47), .ref (xad G 43)] q339
  refine x_dup hC dX9_init_676 rfl <| x_bipush (v := (59 : Int32)) hC dX9_init_677 (by decide) <| x_iconst (v := (3 : Int32)) hC dX9_init_679 (by decide) <| ?_
  refine x_iast (N := 60) hC dX9_init_680 (by decide) (by decide +kernel) (by decide) ?_
  show xV G l mM_X9_init K 681 [(0, .ref (xad G 43))] [.ref (xad G 47), .ref (xad G 43)] q340
  refine x_putFR (k := 4) (N := 60) hC dX9_init_681 wfl_X9_19 (by decide) (by decide) (by decide) (by decide +kernel) (by decide) rfl rfl (by decide) ?_
  show xV G l mM_X9_init K 684 [(0, .ref (xad G 43))] [] q341
  refine x_aload_n hC dX9_init_684 rfl (j := 0) rfl <| x_bipush (v := (6 : Int32)) hC dX9_init_685 (by decide) <| ?_
  refine x_putI (k := 5) (N := 60) hC dX9_init_687 wfl_X9_22 (by decide) (by decide) (by decide) (by decide +kernel) (by decide) (by decide) ?_
  show xV G l mM_X9_init K 690 [(0, .ref (xad G 43))] [] q342
  refine x_aload_n hC dX9_init_690 rfl (j := 0) rfl <| x_iconst (v := (2 : Int32)) hC dX9_init_691 (by decide) <| ?_
  refine x_putI (k := 6) (N := 60) hC dX9_init_692 wfl_X9_26 (by decide) (by decide) (by decide) (by decide +kernel) (by decide) (by decide) ?_
  show xV G l mM_X9_init K 695 [(0, .ref (xad G 43))] [] q343
  refine x_aload_n hC dX9_init_695 rfl (j := 0) rfl <| x_bipush (v := (50 : Int32)) hC dX9_init_696 (by decide) <| ?_
  refine x_putI (k := 9) (N := 60) hC dX9_init_698 wfl_X9_29 (by decide) (by decide) (by decide) (by decide +kernel) (by decide) (by decide) ?_
  show xV G l mM_X9_init K 701 [(0, .ref (xad G 43))] [] q344
  refine x_aload_n hC dX9_init_701 rfl (j := 0) rfl <| x_bipush (v := (60 : Int32)) hC dX9_init_702 (by decide) <| ?_
  refine x_newa (t := 0) (N := 60) (ty := .int) hC dX9_init_704 rfl rfl (fun h => h) (by decide +kernel) (xmt_1 33 (by decide +kernel) (by decide +kernel)) (by decide) (by decide) (by decide) (fun _ => rfl) (by decide) (by decide +kernel) (by rw [← hE.2.1]; exact (by decide +kernel : q344.1 + 1 ≤ q402.1)) (by rw [← hE.2.2]; exact (by decide +kernel : xSz (q344.1 + 1) ≤ xSz q402.1)) ?_
  show xV G l mM_X9_init K 706 [(0, .ref (xad G 43))] [.ref (xad G 48), .ref (xad G 43)] q345
  refine x_putFR (k := 12) (N := 60) hC dX9_init_706 wfl_X9_32 (by decide) (by decide) (by decide) (by decide +kernel) (by decide) rfl rfl (by decide) ?_
  show xV G l mM_X9_init K 709 [(0, .ref (xad G 43))] [] q346
  refine x_aload_n hC dX9_init_709 rfl (j := 0) rfl <| x_bipush (v := (60 : Int32)) hC dX9_init_710 (by decide) <| ?_
  refine x_newa (t := 0) (N := 60) (ty := .int) hC dX9_init_712 rfl rfl (fun h => h) (by decide +kernel) (xmt_1 33 (by decide +kernel) (by decide +kernel)) (by decide) (by decide) (by decide) (fun _ => rfl) (by decide) (by decide +kernel) (by rw [← hE.2.1]; exact (by decide +kernel : q346.1 + 1 ≤ q402.1)) (by rw [← hE.2.2]; exact (by decide +kernel : xSz (q346.1 + 1) ≤ xSz q402.1)) ?_
  show xV G l mM_X9_init K 714 [(0, .ref (xad G 43))] [.ref (xad G 49), .ref (xad G 43)] q347
  refine x_putFR (k := 13) (N := 60) hC dX9_init_714 wfl_X9_35 (by decide) (by decide) (by decide) (by decide +kernel) (by decide) rfl rfl (by decide) ?_
  show xV G l mM_X9_init K 717 [(0, .ref (xad G 43))] [] q348
  refine x_aload_n hC dX9_init_717 rfl (j := 0) rfl <| x_bipush (v := (40 : Int32)) hC dX9_init_718 (by decide) <| ?_
  refine x_newa (t := 0) (N := 40) (ty := .int) hC dX9_init_720 rfl rfl (fun h => h) (by decide +kernel) (xmt_1 33 (by decide +kernel) (by decide +kernel)) (by decide) (by decide) (by decide) (fun _ => rfl) (by decide) (by decide +kernel) (by rw [← hE.2.1]; exact (by decide +kernel : q348.1 + 1 ≤ q402.1)) (by rw [← hE.2.2]; exact (by decide +kernel : xSz (q348.1 + 1) ≤ xSz q402.1)) ?_
  show xV G l mM_X9_init K 722 [(0, .ref (xad G 43))] [.ref (xad G 50), .ref (xad G 43)] q349
  refine x_putFR (k := 16) (N := 60) hC dX9_init_722 wfl_X9_38 (by decide) (by decide) (by decide) (by decide +kernel) (by decide) rfl rfl (by decide) ?_
  show xV G l mM_X9_init K 725 [(0, .ref (xad G 43))] [] q350
  refine x_aload_n hC dX9_init_725 rfl (j := 0) rfl <| x_bipush (v := (40 : Int32)) hC dX9_init_726 (by decide) <| ?_
  refine x_newa (t := 0) (N := 40) (ty := .int) hC dX9_init_728 rfl rfl (fun h => h) (by decide +kernel) (xmt_1 33 (by decide +kernel) (by decide +kernel)) (by decide) (by decide) (by decide) (fun _ => rfl) (by decide) (by decide +kernel) (by rw [← hE.2.1]; exact (by decide +kernel : q350.1 + 1 ≤ q402.1)) (by rw [← hE.2.2]; exact (by decide +kernel : xSz (q350.1 + 1) ≤ xSz q402.1)) ?_
  show xV G l mM_X9_init K 730 [(0, .ref (xad G 43))] [.ref (xad G 51), .ref (xad G 43)] q351
  refine x_putFR (k := 17) (N := 60) hC dX9_init_730 wfl_X9_41 (by decide) (by decide) (by decide) (by decide +kernel) (by decide) rfl rfl (by decide) ?_
  show xV G l mM_X9_init K 733 [(0, .ref (xad G 43))] [] q352
  refine x_aload_n hC dX9_init_733 rfl (j := 0) rfl <| x_bipush (v := (40 : Int32)) hC dX9_init_734 (by decide) <| ?_
  refine x_newa (t := 0) (N := 40) (ty := .int) hC dX9_init_736 rfl rfl (fun h => h) (by decide +kernel) (xmt_1 33 (by decide +kernel) (by decide +kernel)) (by decide) (by decide) (by decide) (fun _ => rfl) (by decide) (by decide +kernel) (by rw [← hE.2.1]; exact (by decide +kernel : q352.1 + 1 ≤ q402.1)) (by rw [← hE.2.2]; exact (by decide +kernel : xSz (q352.1 + 1) ≤ xSz q402.1)) ?_
  show xV G l mM_X9_init K 738 [(0, .ref (xad G 43))] [.ref (xad G 52), .ref (xad G 43)] q353
  refine x_putFR (k := 18) (N := 60) hC dX9_init_738 wfl_X9_44 (by decide) (by decide) (by decide) (by decide +kernel) (by decide) rfl rfl (by decide) ?_
  show xV G l mM_X9_init K 741 [(0, .ref (xad G 43))] [] q354
  refine x_aload_n hC dX9_init_741 rfl (j := 0) rfl <| x_bipush (v := (40 : Int32)) hC dX9_init_742 (by decide) <| ?_
  refine x_newa (t := 0) (N := 40) (ty := .int) hC dX9_init_744 rfl rfl (fun h => h) (by decide +kernel) (xmt_1 33 (by decide +kernel) (by decide +kernel)) (by decide) (by decide) (by decide) (fun _ => rfl) (by decide) (by decide +kernel) (by rw [← hE.2.1]; exact (by decide +kernel : q354.1 + 1 ≤ q402.1)) (by rw [← hE.2.2]; exact (by decide +kernel : xSz (q354.1 + 1) ≤ xSz q402.1)) ?_
  show xV G l mM_X9_init K 746 [(0, .ref (xad G 43))] [.ref (xad G 53), .ref (xad G 43)] q355
  refine x_putFR (k := 19) (N := 60) hC dX9_init_746 wfl_X9_47 (by decide) (by decide) (by decide) (by decide +kernel) (by decide) rfl rfl (by decide) ?_
  show xV G l mM_X9_init K 749 [(0, .ref (xad G 43))] [] q356
  refine x_aload_n hC dX9_init_749 rfl (j := 0) rfl <| x_bipush (v := (120 : Int32)) hC dX9_init_750 (by decide) <| ?_
  refine x_newa (t := 1) (N := 120) (ty := .byte) hC dX9_init_752 rfl rfl (fun h => h) (by decide +kernel) (xmt_5 98 (by decide +kernel) (by decide +kernel)) (by decide) (by decide) (by decide) (fun _ => rfl) (by decide) (by decide +kernel) (by rw [← hE.2.1]; exact (by decide +kernel : q356.1 + 1 ≤ q402.1)) (by rw [← hE.2.2]; exact (by decide +kernel : xSz (q356.1 + 1) ≤ xSz q402.1)) ?_
  show xV G l mM_X9_init K 754 [(0, .ref (xad G 43))] [.ref (xad G 54), .ref (xad G 43)] q357
  refine x_putFR (k := 20) (N := 60) hC dX9_init_754 wfl_X9_50 (by decide) (by decide) (by decide) (by decide +kernel) (by decide) rfl rfl (by decide) ?_
  show xV G l mM_X9_init K 757 [(0, .ref (xad G 43))] [] q358
  refine x_aload_n hC dX9_init_757 rfl (j := 0) rfl <| x_sipush (v := (260 : Int32)) hC dX9_init_758 (by decide) <| ?_
  refine x_newa (t := 1) (N := 260) (ty := .byte) hC dX9_init_761 rfl rfl (fun h => h) (by decide +kernel) (xmt_5 98 (by decide +kernel) (by decide +kernel)) (by decide) (by decide) (by decide) (fun _ => rfl) (by decide) (by decide +kernel) (by rw [← hE.2.1]; exact (by decide +kernel : q358.1 + 1 ≤ q402.1)) (by rw [← hE.2.2]; exact (by decide +kernel : xSz (q358.1 + 1) ≤ xSz q402.1)) ?_
  show xV G l mM_X9_init K 763 [(0, .ref (xad G 43))] [.ref (xad G 55), .ref (xad G 43)] q359
  refine x_putFR (k := 26) (N := 60) hC dX9_init_763 wfl_X9_54 (by decide) (by decide) (by decide) (by decide +kernel) (by decide) rfl rfl (by decide) ?_
  show xV G l mM_X9_init K 766 [(0, .ref (xad G 43))] [] q360
  refine x_aload_n hC dX9_init_766 rfl (j := 0) rfl <| x_sipush (v := (260 : Int32)) hC dX9_init_767 (by decide) <| ?_
  refine x_newa (t := 0) (N := 260) (ty := .int) hC dX9_init_770 rfl rfl (fun h => h) (by decide +kernel) (xmt_1 33 (by decide +kernel) (by decide +kernel)) (by decide) (by decide) (by decide) (fun _ => rfl) (by decide) (by decide +kernel) (by rw [← hE.2.1]; exact (by decide +kernel : q360.1 + 1 ≤ q402.1)) (by rw [← hE.2.2]; exact (by decide +kernel : xSz (q360.1 + 1) ≤ xSz q402.1)) ?_
  show xV G l mM_X9_init K 772 [(0, .ref (xad G 43))] [.ref (xad G 56), .ref (xad G 43)] q361
  refine x_putFR (k := 27) (N := 60) hC dX9_init_772 wfl_X9_57 (by decide) (by decide) (by decide) (by decide +kernel) (by decide) rfl rfl (by decide) ?_
  show xV G l mM_X9_init K 775 [(0, .ref (xad G 43))] [] q362
  refine x_aload_n hC dX9_init_775 rfl (j := 0) rfl <| x_iconst (v := (2 : Int32)) hC dX9_init_776 (by decide) <| ?_
  refine x_newa (t := 0) (N := 2) (ty := .int) hC dX9_init_777 rfl rfl (fun h => h) (by decide +kernel) (xmt_1 33 (by decide +kernel) (by decide +kernel)) (by decide) (by decide) (by decide) (fun _ => rfl) (by decide) (by decide +kernel) (by rw [← hE.2.1]; exact (by decide +kernel : q362.1 + 1 ≤ q402.1)) (by rw [← hE.2.2]; exact (by decide +kernel : xSz (q362.1 + 1) ≤ xSz q402.1)) ?_
  show xV G l mM_X9_init K 779 [(0, .ref (xad G 43))] [.ref (xad G 57), .ref (xad G 43)] q363
  refine x_putFR (k := 28) (N := 60) hC dX9_init_779 wfl_X9_60 (by decide) (by decide) (by decide) (by decide +kernel) (by decide) rfl rfl (by decide) ?_
  show xV G l mM_X9_init K 782 [(0, .ref (xad G 43))] [] q364
  refine x_aload_n hC dX9_init_782 rfl (j := 0) rfl <| x_bipush (v := (122 : Int32)) hC dX9_init_783 (by decide) <| ?_
  refine x_newa (t := 2) (N := 122) (ty := .short) hC dX9_init_785 rfl rfl (fun h => h) (by decide +kernel) (xmt_5 99 (by decide +kernel) (by decide +kernel)) (by decide) (by decide) (by decide) (fun _ => rfl) (by decide) (by decide +kernel) (by rw [← hE.2.1]; exact (by decide +kernel : q364.1 + 1 ≤ q402.1)) (by rw [← hE.2.2]; exact (by decide +kernel : xSz (q364.1 + 1) ≤ xSz q402.1)) ?_
  show xV G l mM_X9_init K 787 [(0, .ref (xad G 43))] [.ref (xad G 58), .ref (xad G 43)] q365
  refine x_putFR (k := 29) (N := 60) hC dX9_init_787 wfl_X9_63 (by decide) (by decide) (by decide) (by decide +kernel) (by decide) rfl rfl (by decide) ?_
  show xV G l mM_X9_init K 790 [(0, .ref (xad G 43))] [] q366
  refine x_aload_n hC dX9_init_790 rfl (j := 0) rfl <| x_bipush (v := (122 : Int32)) hC dX9_init_791 (by decide) <| ?_
  refine x_newa (t := 2) (N := 122) (ty := .short) hC dX9_init_793 rfl rfl (fun h => h) (by decide +kernel) (xmt_5 99 (by decide +kernel) (by decide +kernel)) (by decide) (by decide) (by decide) (fun _ => rfl) (by decide) (by decide +kernel) (by rw [← hE.2.1]; exact (by decide +kernel : q366.1 + 1 ≤ q402.1)) (by rw [← hE.2.2]; exact (by decide +kernel : xSz (q366.1 + 1) ≤ xSz q402.1)) ?_
  show xV G l mM_X9_init K 795 [(0, .ref (xad G 43))] [.ref (xad G 59), .ref (xad G 43)] q367
  refine x_putFR (k := 30) (N := 60) hC dX9_init_795 wfl_X9_67 (by decide) (by decide) (by decide) (by decide +kernel) (by decide) rfl rfl (by decide) ?_
  show xV G l mM_X9_init K 798 [(0, .ref (xad G 43))] [] q368
  refine x_aload_n hC dX9_init_798 rfl (j := 0) rfl <| x_bipush (v := (7 : Int32)) hC dX9_init_799 (by decide) <| ?_
  refine x_newa (t := 0) (N := 7) (ty := .int) hC dX9_init_801 rfl rfl (fun h => h) (by decide +kernel) (xmt_1 33 (by decide +kernel) (by decide +kernel)) (by decide) (by decide) (by decide) (fun _ => rfl) (by decide) (by decide +kernel) (by rw [← hE.2.1]; exact (by decide +kernel : q368.1 + 1 ≤ q402.1)) (by rw [← hE.2.2]; exact (by decide +kernel : xSz (q368.1 + 1) ≤ xSz q402.1)) ?_
  show xV G l mM_X9_init K 803 [(0, .ref (xad G 43))] [.ref (xad G 60), .ref (xad G 43)] q369
  refine x_putFR (k := 31) (N := 60) hC dX9_init_803 wfl_X9_70 (by decide) (by decide) (by decide) (by decide +kernel) (by decide) rfl rfl (by decide) ?_
  show xV G l mM_X9_init K 806 [(0, .ref (xad G 43))] [] q370
  refine x_aload_n hC dX9_init_806 rfl (j := 0) rfl <| x_sipush (v := (130 : Int32)) hC dX9_init_807 (by decide) <| ?_
  refine x_newa (t := 0) (N := 130) (ty := .int) hC dX9_init_810 rfl rfl (fun h => h) (by decide +kernel) (xmt_1 33 (by decide +kernel) (by decide +kernel)) (by decide) (by decide) (by decide) (fun _ => rfl) (by decide) (by decide +kernel) (by rw [← hE.2.1]; exact (by decide +kernel : q370.1 + 1 ≤ q402.1)) (by rw [← hE.2.2]; exact (by decide +kernel : xSz (q370.1 + 1) ≤ xSz q402.1)) ?_
  show xV G l mM_X9_init K 812 [(0, .ref (xad G 43))] [.ref (xad G 61), .ref (xad G 43)] q371
  refine x_putFR (k := 32) (N := 60) hC dX9_init_812 wfl_X9_73 (by decide) (by decide) (by decide) (by decide +kernel) (by decide) rfl rfl (by decide) ?_
  show xV G l mM_X9_init K 815 [(0, .ref (xad G 43))] [] q372
  refine x_aload_n hC dX9_init_815 rfl (j := 0) rfl <| x_bipush (v := (36 : Int32)) hC dX9_init_816 (by decide) <| ?_
  refine x_newa (t := 0) (N := 36) (ty := .int) hC dX9_init_818 rfl rfl (fun h => h) (by decide +kernel) (xmt_1 33 (by decide +kernel) (by decide +kernel)) (by decide) (by decide) (by decide) (fun _ => rfl) (by decide) (by decide +kernel) (by rw [← hE.2.1]; exact (by decide +kernel : q372.1 + 1 ≤ q402.1)) (by rw [← hE.2.2]; exact (by decide +kernel : xSz (q372.1 + 1) ≤ xSz q402.1)) ?_
  show xV G l mM_X9_init K 820 [(0, .ref (xad G 43))] [.ref (xad G 62), .ref (xad G 43)] q373
  refine x_putFR (k := 38) (N := 60) hC dX9_init_820 wfl_X9_76 (by decide) (by decide) (by decide) (by decide +kernel) (by decide) rfl rfl (by decide) ?_
  show xV G l mM_X9_init K 823 [(0, .ref (xad G 43))] [] q374
  refine x_aload_n hC dX9_init_823 rfl (j := 0) rfl <| x_sipush (v := (360 : Int32)) hC dX9_init_824 (by decide) <| ?_
  refine x_newa (t := 0) (N := 360) (ty := .int) hC dX9_init_827 rfl rfl (fun h => h) (by decide +kernel) (xmt_1 33 (by decide +kernel) (by decide +kernel)) (by decide) (by decide) (by decide) (fun _ => rfl) (by decide) (by decide +kernel) (by rw [← hE.2.1]; exact (by decide +kernel : q374.1 + 1 ≤ q402.1)) (by rw [← hE.2.2]; exact (by decide +kernel : xSz (q374.1 + 1) ≤ xSz q402.1)) ?_
  show xV G l mM_X9_init K 829 [(0, .ref (xad G 43))] [.ref (xad G 63), .ref (xad G 43)] q375
  refine x_putFR (k := 39) (N := 60) hC dX9_init_829 wfl_X9_79 (by decide) (by decide) (by decide) (by decide +kernel) (by decide) rfl rfl (by decide) ?_
  show xV G l mM_X9_init K 832 [(0, .ref (xad G 43))] [] q376
  refine x_aload_n hC dX9_init_832 rfl (j := 0) rfl <| x_sipush (v := (360 : Int32)) hC dX9_init_833 (by decide) <| ?_
  refine x_newa (t := 0) (N := 360) (ty := .int) hC dX9_init_836 rfl rfl (fun h => h) (by decide +kernel) (xmt_1 33 (by decide +kernel) (by decide +kernel)) (by decide) (by decide) (by decide) (fun _ => rfl) (by decide) (by decide +kernel) (by rw [← hE.2.1]; exact (by decide +kernel : q376.1 + 1 ≤ q402.1)) (by rw [← hE.2.2]; exact (by decide +kernel : xSz (q376.1 + 1) ≤ xSz q402.1)) ?_
  show xV G l mM_X9_init K 838 [(0, .ref (xad G 43))] [.ref (xad G 64), .ref (xad G 43)] q377
  refine x_putFR (k := 40) (N := 60) hC dX9_init_838 wfl_X9_82 (by decide) (by decide) (by decide) (by decide +kernel) (by decide) rfl rfl (by decide) ?_
  show xV G l mM_X9_init K 841 [(0, .ref (xad G 43))] [] q378
  refine x_aload_n hC dX9_init_841 rfl (j := 0) rfl <| x_iconst (v := (5 : Int32)) hC dX9_init_842 (by decide) <| ?_
  refine x_newa (t := 0) (N := 5) (ty := .int) hC dX9_init_843 rfl rfl (fun h => h) (by decide +kernel) (xmt_1 33 (by decide +kernel) (by decide +kernel)) (by decide) (by decide) (by decide) (fun _ => rfl) (by decide) (by decide +kernel) (by rw [← hE.2.1]; exact (by decide +kernel : q378.1 + 1 ≤ q402.1)) (by rw [← hE.2.2]; exact (by decide +kernel : xSz (q378.1 + 1) ≤ xSz q402.1)) ?_
  show xV G l mM_X9_init K 845 [(0, .ref (xad G 43))] [.ref (xad G 65), .ref (xad G 43)] q379
  refine x_putFR (k := 41) (N := 60) hC dX9_init_845 wfl_X9_85 (by decide) (by decide) (by decide) (by decide +kernel) (by decide) rfl rfl (by decide) ?_
  show xV G l mM_X9_init K 848 [(0, .ref (xad G 43))] [] q380
  refine x_aload_n hC dX9_init_848 rfl (j := 0) rfl <| x_bipush (v := (30 : Int32)) hC dX9_init_849 (by decide) <| ?_
  refine x_newa (t := 0) (N := 30) (ty := .int) hC dX9_init_851 rfl rfl (fun h => h) (by decide +kernel) (xmt_1 33 (by decide +kernel) (by decide +kernel)) (by decide) (by decide) (by decide) (fun _ => rfl) (by decide) (by decide +kernel) (by rw [← hE.2.1]; exact (by decide +kernel : q380.1 + 1 ≤ q402.1)) (by rw [← hE.2.2]; exact (by decide +kernel : xSz (q380.1 + 1) ≤ xSz q402.1)) ?_
  show xV G l mM_X9_init K 853 [(0, .ref (xad G 43))] [.ref (xad G 66), .ref (xad G 43)] q381
  refine x_putFR (k := 42) (N := 60) hC dX9_init_853 wfl_X9_88 (by decide) (by decide) (by decide) (by decide +kernel) (by decide) rfl rfl (by decide) ?_
  show xV G l mM_X9_init K 856 [(0, .ref (xad G 43))] [] q382
  refine x_aload_n hC dX9_init_856 rfl (j := 0) rfl <| x_iconst (v := (5 : Int32)) hC dX9_init_857 (by decide) <| ?_
  refine x_newa (t := 0) (N := 5) (ty := .int) hC dX9_init_858 rfl rfl (fun h => h) (by decide +kernel) (xmt_1 33 (by decide +kernel) (by decide +kernel)) (by decide) (by decide) (by decide) (fun _ => rfl) (by decide) (by decide +kernel) (by rw [← hE.2.1]; exact (by decide +kernel : q382.1 + 1 ≤ q402.1)) (by rw [← hE.2.2]; exact (by decide +kernel : xSz (q382.1 + 1) ≤ xSz q402.1)) ?_
  show xV G l mM_X9_init K 860 [(0, .ref (xad G 43))] [.ref (xad G 67), .ref (xad G 43)] q383
  refine x_putFR (k := 43) (N := 60) hC dX9_init_860 wfl_X9_91 (by decide) (by decide) (by decide) (by decide +kernel) (by decide) rfl rfl (by decide) ?_
  show xV G l mM_X9_init K 863 [(0, .ref (xad G 43))] [] q384
  refine x_aload_n hC dX9_init_863 rfl (j := 0) rfl <| x_bipush (v := (50 : Int32)) hC dX9_init_864 (by decide) <| ?_
  refine x_newa (t := 0) (N := 50) (ty := .int) hC dX9_init_866 rfl rfl (fun h => h) (by decide +kernel) (xmt_1 33 (by decide +kernel) (by decide +kernel)) (by decide) (by decide) (by decide) (fun _ => rfl) (by decide) (by decide +kernel) (by rw [← hE.2.1]; exact (by decide +kernel : q384.1 + 1 ≤ q402.1)) (by rw [← hE.2.2]; exact (by decide +kernel : xSz (q384.1 + 1) ≤ xSz q402.1)) ?_
  show xV G l mM_X9_init K 868 [(0, .ref (xad G 43))] [.ref (xad G 68), .ref (xad G 43)] q385
  refine x_putFR (k := 53) (N := 60) hC dX9_init_868 wfl_X9_94 (by decide) (by decide) (by decide) (by decide +kernel) (by decide) rfl rfl (by decide) ?_
  show xV G l mM_X9_init K 871 [(0, .ref (xad G 43))] [] q386
  refine x_aload_n hC dX9_init_871 rfl (j := 0) rfl <| x_bipush (v := (24 : Int32)) hC dX9_init_872 (by decide) <| ?_
  refine x_newa (t := 0) (N := 24) (ty := .int) hC dX9_init_874 rfl rfl (fun h => h) (by decide +kernel) (xmt_1 33 (by decide +kernel) (by decide +kernel)) (by decide) (by decide) (by decide) (fun _ => rfl) (by decide) (by decide +kernel) (by rw [← hE.2.1]; exact (by decide +kernel : q386.1 + 1 ≤ q402.1)) (by rw [← hE.2.2]; exact (by decide +kernel : xSz (q386.1 + 1) ≤ xSz q402.1)) ?_
  show xV G l mM_X9_init K 876 [(0, .ref (xad G 43))] [.ref (xad G 69), .ref (xad G 43)] q387
  refine x_putFR (k := 55) (N := 60) hC dX9_init_876 wfl_X9_97 (by decide) (by decide) (by decide) (by decide +kernel) (by decide) rfl rfl (by decide) ?_
  show xV G l mM_X9_init K 879 [(0, .ref (xad G 43))] [] q388
  refine x_aload_n hC dX9_init_879 rfl (j := 0) rfl <| x_bipush (v := (6 : Int32)) hC dX9_init_880 (by decide) <| ?_
  refine x_newa (t := 0) (N := 6) (ty := .int) hC dX9_init_882 rfl rfl (fun h => h) (by decide +kernel) (xmt_1 33 (by decide +kernel) (by decide +kernel)) (by decide) (by decide) (by decide) (fun _ => rfl) (by decide) (by decide +kernel) (by rw [← hE.2.1]; exact (by decide +kernel : q388.1 + 1 ≤ q402.1)) (by rw [← hE.2.2]; exact (by decide +kernel : xSz (q388.1 + 1) ≤ xSz q402.1)) ?_
  show xV G l mM_X9_init K 884 [(0, .ref (xad G 43))] [.ref (xad G 70), .ref (xad G 43)] q389
  refine x_dup hC dX9_init_884 rfl <| x_iconst (v := (0 : Int32)) hC dX9_init_885 (by decide) <| x_iconst (v := (-1 : Int32)) hC dX9_init_886 (by decide) <| ?_
  refine x_iast (N := 6) hC dX9_init_887 (by decide) (by decide +kernel) (by decide) ?_
  show xV G l mM_X9_init K 888 [(0, .ref (xad G 43))] [.ref (xad G 70), .ref (xad G 43)] q390
  refine x_dup hC dX9_init_888 rfl <| x_iconst (v := (1 : Int32)) hC dX9_init_889 (by decide) <| x_iconst (v := (-1 : Int32)) hC dX9_init_890 (by decide) <| ?_
  refine x_iast (N := 6) hC dX9_init_891 (by decide) (by decide +kernel) (by decide) ?_
  show xV G l mM_X9_init K 892 [(0, .ref (xad G 43))] [.ref (xad G 70), .ref (xad G 43)] q391
  refine x_dup hC dX9_init_892 rfl <| x_iconst (v := (2 : Int32)) hC dX9_init_893 (by decide) <| x_iconst (v := (-1 : Int32)) hC dX9_init_894 (by decide) <| ?_
  refine x_iast (N := 6) hC dX9_init_895 (by decide) (by decide +kernel) (by decide) ?_
  show xV G l mM_X9_init K 896 [(0, .ref (xad G 43))] [.ref (xad G 70), .ref (xad G 43)] q392
  refine x_dup hC dX9_init_896 rfl <| x_iconst (v := (3 : Int32)) hC dX9_init_897 (by decide) <| x_iconst (v := (-1 : Int32)) hC dX9_init_898 (by decide) <| ?_
  refine x_iast (N := 6) hC dX9_init_899 (by decide) (by decide +kernel) (by decide) ?_
  show xV G l mM_X9_init K 900 [(0, .ref (xad G 43))] [.ref (xad G 70), .ref (xad G 43)] q393
  refine x_dup hC dX9_init_900 rfl <| x_iconst (v := (4 : Int32)) hC dX9_init_901 (by decide) <| x_iconst (v := (-1 : Int32)) hC dX9_init_902 (by decide) <| ?_
  refine x_iast (N := 6) hC dX9_init_903 (by decide) (by decide +kernel) (by decide) ?_
  show xV G l mM_X9_init K 904 [(0, .ref (xad G 43))] [.ref (xad G 70), .ref (xad G 43)] q394
  refine x_dup hC dX9_init_904 rfl <| x_iconst (v := (5 : Int32)) hC dX9_init_905 (by decide) <| x_iconst (v := (-1 : Int32)) hC dX9_init_906 (by decide) <| ?_
  refine x_iast (N := 6) hC dX9_init_907 (by decide) (by decide +kernel) (by decide) ?_
  show xV G l mM_X9_init K 908 [(0, .ref (xad G 43))] [.ref (xad G 70), .ref (xad G 43)] q395
  refine x_putFR (k := 56) (N := 60) hC dX9_init_908 wfl_X9_100 (by decide) (by decide) (by decide) (by decide +kernel) (by decide) rfl rfl (by decide) ?_
  show xV G l mM_X9_init K 911 [(0, .ref (xad G 43))] [] q396
  refine x_aload_n hC dX9_init_911 rfl (j := 0) rfl <| x_bipush (v := (6 : Int32)) hC dX9_init_912 (by decide) <| ?_
  refine x_newa (t := 0) (N := 6) (ty := .int) hC dX9_init_914 rfl rfl (fun h => h) (by decide +kernel) (xmt_1 33 (by decide +kernel) (by decide +kernel)) (by decide) (by decide) (by decide) (fun _ => rfl) (by decide) (by decide +kernel) (by rw [← hE.2.1]; exact (by decide +kernel : q396.1 + 1 ≤ q402.1)) (by rw [← hE.2.2]; exact (by decide +kernel : xSz (q396.1 + 1) ≤ xSz q402.1)) ?_
  show xV G l mM_X9_init K 916 [(0, .ref (xad G 43))] [.ref (xad G 71), .ref (xad G 43)] q397
  refine x_putFR (k := 57) (N := 60) hC dX9_init_916 wfl_X9_103 (by decide) (by decide) (by decide) (by decide +kernel) (by decide) rfl rfl (by decide) ?_
  show xV G l mM_X9_init K 919 [(0, .ref (xad G 43))] [] q398
  refine x_aload_n hC dX9_init_919 rfl (j := 0) rfl <| x_sipush (v := (360 : Int32)) hC dX9_init_920 (by decide) <| ?_
  refine x_newa (t := 3) (N := 360) (ty := .long) hC dX9_init_923 rfl rfl (fun h => h) (by decide +kernel) (xmt_1 213 (by decide +kernel) (by decide +kernel)) (by decide) (by decide) (by decide) (fun _ => rfl) (by decide) (by decide +kernel) (by rw [← hE.2.1]; exact (by decide +kernel : q398.1 + 1 ≤ q402.1)) (by rw [← hE.2.2]; exact (by decide +kernel : xSz (q398.1 + 1) ≤ xSz q402.1)) ?_
  show xV G l mM_X9_init K 925 [(0, .ref (xad G 43))] [.ref (xad G 72), .ref (xad G 43)] q399
  refine x_putFR (k := 58) (N := 60) hC dX9_init_925 wfl_X9_106 (by decide) (by decide) (by decide) (by decide +kernel) (by decide) rfl rfl (by decide) ?_
  show xV G l mM_X9_init K 928 [(0, .ref (xad G 43))] [] q400
  refine x_aload_n hC dX9_init_928 rfl (j := 0) rfl <| x_bipush (v := (60 : Int32)) hC dX9_init_929 (by decide) <| ?_
  refine x_newa (t := 3) (N := 60) (ty := .long) hC dX9_init_931 rfl rfl (fun h => h) (by decide +kernel) (xmt_1 213 (by decide +kernel) (by decide +kernel)) (by decide) (by decide) (by decide) (fun _ => rfl) (by decide) (by decide +kernel) (by rw [← hE.2.1]; exact (by decide +kernel : q400.1 + 1 ≤ q402.1)) (by rw [← hE.2.2]; exact (by decide +kernel : xSz (q400.1 + 1) ≤ xSz q402.1)) ?_
  show xV G l mM_X9_init K 933 [(0, .ref (xad G 43))] [.ref (xad G 73), .ref (xad G 43)] q401
  refine x_putFR (k := 59) (N := 60) hC dX9_init_933 wfl_X9_110 (by decide) (by decide) (by decide) (by decide +kernel) (by decide) rfl rfl (by decide) ?_
  show xV G l mM_X9_init K 936 [(0, .ref (xad G 43))] [] q402
  exact x_vret (rest := []) hC hE rfl dX9_init_936
set_option maxRecDepth 100000 in
set_option maxHeartbeats 4000000 in
theorem xlaw_begin {G : xG} {l : Launch} {K : xK} {b : Nat} (hC : xCX G mM_L_law K) (hR : xRd K 200) (hn0 : xKn K = 0) (hcl : (xKR K).cells = 600000) (hsl : (xKR K).slots = 7302250) (kk : xV G l mM_L_law K 18 [(3, .int (0 : Int32)), (2, .ref (xad G 43)), (1, .ref (xad G 0)), (0, .ref b)] [] q402) : xV G l mM_L_law K 0 [(0, .ref b)] [] q0 := by
  refine x_new (q := (RX8, TX8, 14)) (ci := 8) hC dL_law_0 (by decide) rfl (by decide +kernel) wcl_L_7 (xmt_1 16 (by decide +kernel) (by decide +kernel)) (xmt_1 1 (by decide +kernel) (by decide +kernel)) (by decide +kernel) (by rw [hn0, hcl]; exact (by decide +kernel : q0.1 + 1 ≤ 0 + 600000)) (by rw [hn0, hsl]; exact (by decide +kernel : xSz (q0.1 + 1) ≤ xSz 0 + 7302250)) ?_
  show xV G l mM_L_law K 3 [(0, .ref b)] [.ref (xad G 0)] q1
  refine x_dup hC dL_law_3 rfl <| ?_
  refine x_callI0 (rest := [.ref (xad G 0)]) hC hR dL_law_4 mK_X8_init wml_L_9 (CT_1) (by decide) rfl (Nat.le_of_ble_eq_true rfl) (by rw [hn0, hcl]; exact (by decide +kernel : q212.1 ≤ 0 + 600000)) (by rw [hn0, hsl]; exact (by decide +kernel : xSz q212.1 ≤ xSz 0 + 7302250)) rfl rfl ?_
  show xV G l mM_L_law K 7 [(0, .ref b)] [.ref (xad G 0)] q212
  refine x_astore_n hC dL_law_7 rfl (by decide) rfl <| ?_
  refine x_new (q := (RX9, TX9, 60)) (ci := 9) hC dL_law_8 (by decide) rfl (by decide +kernel) wcl_L_10 (xmt_4 153 (by decide +kernel) (by decide +kernel)) (xmt_1 10 (by decide +kernel) (by decide +kernel)) (by decide +kernel) (by rw [hn0, hcl]; exact (by decide +kernel : q212.1 + 1 ≤ 0 + 600000)) (by rw [hn0, hsl]; exact (by decide +kernel : xSz (q212.1 + 1) ≤ xSz 0 + 7302250)) ?_
  show xV G l mM_L_law K 11 [(1, .ref (xad G 0)), (0, .ref b)] [.ref (xad G 43)] q213
  refine x_dup hC dL_law_11 rfl <| ?_
  refine x_callI0 (rest := [.ref (xad G 43)]) hC hR dL_law_12 mK_X9_init wml_L_12 (CT_18) (by decide) rfl (Nat.le_of_ble_eq_true rfl) (by rw [hn0, hcl]; exact (by decide +kernel : q402.1 ≤ 0 + 600000)) (by rw [hn0, hsl]; exact (by decide +kernel : xSz q402.1 ≤ xSz 0 + 7302250)) rfl rfl ?_
  show xV G l mM_L_law K 15 [(1, .ref (xad G 0)), (0, .ref b)] [.ref (xad G 43)] q402
  refine x_astore_n hC dL_law_15 rfl (by decide) rfl <| x_iconst (v := (0 : Int32)) hC dL_law_16 (by decide) <| x_istore_n hC dL_law_17 rfl (by decide) rfl <| ?_
  exact kk
