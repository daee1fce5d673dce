theorem og_w1 : Cond.initialized "OpenGraves" ∈ og_tbl := og_mc1 1 rfl rfl
theorem og_w2 : Cond.initialized "OpenGraves$Parish" ∈ og_tbl := og_mc1 2 rfl rfl
theorem og_w3 : Cond.initialized "OpenGraves$Yard" ∈ og_tbl := og_mc1 3 rfl rfl
theorem og_w4 : Cond.initialized "OpenGraves$Script" ∈ og_tbl := og_mc1 4 rfl rfl
theorem og_w5 : Cond.initialized "OpenGraves$Tape" ∈ og_tbl := og_mc1 5 rfl rfl
theorem og_w6 : Cond.initialized "OpenGraves$Tokens" ∈ og_tbl := og_mc1 6 rfl rfl
theorem og_w11 : Cond.initialized "OpenGraves$Grammar" ∈ og_tbl := og_mc1 11 rfl rfl
theorem og_w12 : Cond.initialized "OpenGraves$Reckoner" ∈ og_tbl := og_mc1 12 rfl rfl
theorem og_w13 : Cond.initialized "OpenGraves$Almanac" ∈ og_tbl := og_mc1 13 rfl rfl
theorem og_w14 : Cond.initialized "OpenGraves$Outlook" ∈ og_tbl := og_mc1 14 rfl rfl
theorem og_w15 : Cond.initialized "OpenGraves$Rows" ∈ og_tbl := og_mc1 15 rfl rfl
theorem og_w16 : Cond.initialized "OpenGraves$Past" ∈ og_tbl := og_mc1 16 rfl rfl
theorem og_w17 : Cond.initialized "OpenGravesModel" ∈ og_tbl := og_mc1 17 rfl rfl
theorem og_w18 : Cond.initialized "java/lang/System" ∈ og_tbl := og_mc1 18 rfl rfl
theorem og_w19 : Cond.initialized "java/lang/Math" ∈ og_tbl := og_mc1 19 rfl rfl
theorem og_w20 : Cond.initialized "java/lang/Integer" ∈ og_tbl := og_mc1 20 rfl rfl
theorem og_w41 : Cond.fieldLink "OpenGraves$Yard" 39 "OpenGraves$Yard" "graves" "I" ∈ og_tbl := og_mc1 41 rfl rfl
theorem og_w42 : Cond.fieldLinkNest "OpenGraves$Rows" 21 "OpenGraves$Yard" "graves" "I" "OpenGraves" ∈ og_nest := og_nc1 42 rfl rfl
theorem og_w43 : Cond.fieldLinkNest "OpenGraves$Almanac" 79 "OpenGraves$Yard" "graves" "I" "OpenGraves" ∈ og_nest := og_nc1 43 rfl rfl
theorem og_w44 : Cond.fieldLinkNest "OpenGraves$Parish" 71 "OpenGraves$Yard" "graves" "I" "OpenGraves" ∈ og_nest := og_nc1 44 rfl rfl
theorem og_w45 : Cond.fieldLinkNest "OpenGraves$Reckoner" 76 "OpenGraves$Yard" "graves" "I" "OpenGraves" ∈ og_nest := og_nc1 45 rfl rfl
theorem og_w46 : Cond.fieldLinkNest "OpenGraves$Outlook" 83 "OpenGraves$Yard" "graves" "I" "OpenGraves" ∈ og_nest := og_nc1 46 rfl rfl
theorem og_w47 : Cond.fieldLinkNest "OpenGraves" 142 "OpenGraves$Yard" "graves" "I" "OpenGraves" ∈ og_nest := og_nc1 47 rfl rfl
theorem og_w48 : Cond.fieldLink "OpenGraves$Yard" 43 "OpenGraves$Yard" "people" "I" ∈ og_tbl := og_mc1 48 rfl rfl
theorem og_w49 : Cond.fieldLinkNest "OpenGraves$Rows" 27 "OpenGraves$Yard" "people" "I" "OpenGraves" ∈ og_nest := og_nc1 49 rfl rfl
theorem og_w50 : Cond.fieldLinkNest "OpenGraves$Almanac" 54 "OpenGraves$Yard" "people" "I" "OpenGraves" ∈ og_nest := og_nc1 50 rfl rfl
theorem og_w51 : Cond.fieldLinkNest "OpenGraves$Parish" 78 "OpenGraves$Yard" "people" "I" "OpenGraves" ∈ og_nest := og_nc1 51 rfl rfl
theorem og_w52 : Cond.fieldLinkNest "OpenGraves" 145 "OpenGraves$Yard" "people" "I" "OpenGraves" ∈ og_nest := og_nc1 52 rfl rfl
theorem og_w53 : Cond.fieldLinkNest "OpenGraves$Outlook" 105 "OpenGraves$Yard" "people" "I" "OpenGraves" ∈ og_nest := og_nc1 53 rfl rfl
theorem og_w54 : Cond.fieldLink "OpenGraves$Yard" 46 "OpenGraves$Yard" "month" "I" ∈ og_tbl := og_mc1 54 rfl rfl
theorem og_w55 : Cond.fieldLinkNest "OpenGraves$Almanac" 38 "OpenGraves$Yard" "month" "I" "OpenGraves" ∈ og_nest := og_nc1 55 rfl rfl
theorem og_w56 : Cond.fieldLinkNest "OpenGraves$Outlook" 60 "OpenGraves$Yard" "month" "I" "OpenGraves" ∈ og_nest := og_nc1 56 rfl rfl
theorem og_w57 : Cond.fieldLinkNest "OpenGraves$Reckoner" 69 "OpenGraves$Yard" "month" "I" "OpenGraves" ∈ og_nest := og_nc1 57 rfl rfl
theorem og_w58 : Cond.fieldLinkNest "OpenGraves" 148 "OpenGraves$Yard" "month" "I" "OpenGraves" ∈ og_nest := og_nc1 58 rfl rfl
theorem og_w59 : Cond.fieldLink "OpenGraves$Yard" 49 "OpenGraves$Yard" "keptRows" "I" ∈ og_tbl := og_mc1 59 rfl rfl
theorem og_w60 : Cond.fieldLinkNest "OpenGraves" 161 "OpenGraves$Yard" "keptRows" "I" "OpenGraves" ∈ og_nest := og_nc1 60 rfl rfl
theorem og_w61 : Cond.fieldLink "OpenGraves$Yard" 9 "OpenGraves$Yard" "length" "[I" ∈ og_tbl := og_mc1 61 rfl rfl
theorem og_w62 : Cond.fieldLinkNest "OpenGraves$Reckoner" 82 "OpenGraves$Yard" "length" "[I" "OpenGraves" ∈ og_nest := og_nc1 62 rfl rfl
theorem og_w63 : Cond.fieldLinkNest "OpenGraves$Parish" 99 "OpenGraves$Yard" "length" "[I" "OpenGraves" ∈ og_nest := og_nc1 63 rfl rfl
theorem og_w64 : Cond.fieldLinkNest "OpenGraves" 178 "OpenGraves$Yard" "length" "[I" "OpenGraves" ∈ og_nest := og_nc1 64 rfl rfl
theorem og_w65 : Cond.fieldLink "OpenGraves$Yard" 15 "OpenGraves$Yard" "deep" "[I" ∈ og_tbl := og_mc1 65 rfl rfl
theorem og_w66 : Cond.fieldLinkNest "OpenGraves$Parish" 106 "OpenGraves$Yard" "deep" "[I" "OpenGraves" ∈ og_nest := og_nc1 66 rfl rfl
theorem og_w67 : Cond.fieldLinkNest "OpenGraves$Outlook" 102 "OpenGraves$Yard" "deep" "[I" "OpenGraves" ∈ og_nest := og_nc1 67 rfl rfl
theorem og_w68 : Cond.fieldLinkNest "OpenGraves" 181 "OpenGraves$Yard" "deep" "[I" "OpenGraves" ∈ og_nest := og_nc1 68 rfl rfl
theorem og_w69 : Cond.fieldLink "OpenGraves$Yard" 18 "OpenGraves$Yard" "due" "[I" ∈ og_tbl := og_mc1 69 rfl rfl
theorem og_w70 : Cond.fieldLinkNest "OpenGraves$Almanac" 85 "OpenGraves$Yard" "due" "[I" "OpenGraves" ∈ og_nest := og_nc1 70 rfl rfl
theorem og_w71 : Cond.fieldLinkNest "OpenGraves$Reckoner" 79 "OpenGraves$Yard" "due" "[I" "OpenGraves" ∈ og_nest := og_nc1 71 rfl rfl
theorem og_w72 : Cond.fieldLinkNest "OpenGraves$Parish" 109 "OpenGraves$Yard" "due" "[I" "OpenGraves" ∈ og_nest := og_nc1 72 rfl rfl
theorem og_w73 : Cond.fieldLinkNest "OpenGraves" 184 "OpenGraves$Yard" "due" "[I" "OpenGraves" ∈ og_nest := og_nc1 73 rfl rfl
theorem og_w74 : Cond.fieldLink "OpenGraves$Yard" 21 "OpenGraves$Yard" "who" "[I" ∈ og_tbl := og_mc1 74 rfl rfl
theorem og_w75 : Cond.fieldLinkNest "OpenGraves$Parish" 112 "OpenGraves$Yard" "who" "[I" "OpenGraves" ∈ og_nest := og_nc1 75 rfl rfl
theorem og_w76 : Cond.fieldLinkNest "OpenGraves" 187 "OpenGraves$Yard" "who" "[I" "OpenGraves" ∈ og_nest := og_nc1 76 rfl rfl
theorem og_w77 : Cond.fieldLink "OpenGraves$Yard" 24 "OpenGraves$Yard" "tall" "[I" ∈ og_tbl := og_mc1 77 rfl rfl
theorem og_w78 : Cond.fieldLinkNest "OpenGraves$Reckoner" 63 "OpenGraves$Yard" "tall" "[I" "OpenGraves" ∈ og_nest := og_nc1 78 rfl rfl
theorem og_w79 : Cond.fieldLinkNest "OpenGraves$Parish" 115 "OpenGraves$Yard" "tall" "[I" "OpenGraves" ∈ og_nest := og_nc1 79 rfl rfl
theorem og_w80 : Cond.fieldLinkNest "OpenGraves" 193 "OpenGraves$Yard" "tall" "[I" "OpenGraves" ∈ og_nest := og_nc1 80 rfl rfl
theorem og_w81 : Cond.fieldLink "OpenGraves$Yard" 27 "OpenGraves$Yard" "age" "[I" ∈ og_tbl := og_mc1 81 rfl rfl
theorem og_w82 : Cond.fieldLinkNest "OpenGraves$Reckoner" 58 "OpenGraves$Yard" "age" "[I" "OpenGraves" ∈ og_nest := og_nc1 82 rfl rfl
theorem og_w83 : Cond.fieldLinkNest "OpenGraves$Parish" 118 "OpenGraves$Yard" "age" "[I" "OpenGraves" ∈ og_nest := og_nc1 83 rfl rfl
theorem og_w84 : Cond.fieldLinkNest "OpenGraves$Almanac" 105 "OpenGraves$Yard" "age" "[I" "OpenGraves" ∈ og_nest := og_nc1 84 rfl rfl
theorem og_w85 : Cond.fieldLinkNest "OpenGraves" 196 "OpenGraves$Yard" "age" "[I" "OpenGraves" ∈ og_nest := og_nc1 85 rfl rfl
theorem og_w86 : Cond.fieldLink "OpenGraves$Yard" 30 "OpenGraves$Yard" "will" "[I" ∈ og_tbl := og_mc1 86 rfl rfl
theorem og_w87 : Cond.fieldLinkNest "OpenGraves$Reckoner" 66 "OpenGraves$Yard" "will" "[I" "OpenGraves" ∈ og_nest := og_nc1 87 rfl rfl
theorem og_w88 : Cond.fieldLinkNest "OpenGraves$Outlook" 74 "OpenGraves$Yard" "will" "[I" "OpenGraves" ∈ og_nest := og_nc1 88 rfl rfl
theorem og_w89 : Cond.fieldLinkNest "OpenGraves$Parish" 121 "OpenGraves$Yard" "will" "[I" "OpenGraves" ∈ og_nest := og_nc1 89 rfl rfl
theorem og_w90 : Cond.fieldLinkNest "OpenGraves$Almanac" 99 "OpenGraves$Yard" "will" "[I" "OpenGraves" ∈ og_nest := og_nc1 90 rfl rfl
theorem og_w91 : Cond.fieldLinkNest "OpenGraves" 199 "OpenGraves$Yard" "will" "[I" "OpenGraves" ∈ og_nest := og_nc1 91 rfl rfl
theorem og_w92 : Cond.fieldLink "OpenGraves$Yard" 33 "OpenGraves$Yard" "alive" "[I" ∈ og_tbl := og_mc1 92 rfl rfl
theorem og_w93 : Cond.fieldLinkNest "OpenGraves$Reckoner" 73 "OpenGraves$Yard" "alive" "[I" "OpenGraves" ∈ og_nest := og_nc1 93 rfl rfl
theorem og_w94 : Cond.fieldLinkNest "OpenGraves$Parish" 124 "OpenGraves$Yard" "alive" "[I" "OpenGraves" ∈ og_nest := og_nc1 94 rfl rfl
theorem og_w95 : Cond.fieldLinkNest "OpenGraves" 202 "OpenGraves$Yard" "alive" "[I" "OpenGraves" ∈ og_nest := og_nc1 95 rfl rfl
theorem og_w96 : Cond.fieldLink "OpenGraves$Yard" 36 "OpenGraves$Yard" "kept" "[I" ∈ og_tbl := og_mc1 96 rfl rfl
theorem og_w131 : Cond.fieldLink "OpenGraves$Script" 11 "OpenGraves$Script" "cells" "[I" ∈ og_tbl := og_mc1 131 rfl rfl
theorem og_w132 : Cond.fieldLinkNest "OpenGraves$Reckoner" 20 "OpenGraves$Script" "cells" "[I" "OpenGraves" ∈ og_nest := og_nc1 132 rfl rfl
theorem og_w133 : Cond.fieldLink "OpenGraves$Script" 15 "OpenGraves$Script" "from" "[I" ∈ og_tbl := og_mc1 133 rfl rfl
theorem og_w134 : Cond.fieldLinkNest "OpenGraves$Reckoner" 29 "OpenGraves$Script" "from" "[I" "OpenGraves" ∈ og_nest := og_nc1 134 rfl rfl
theorem og_w135 : Cond.fieldLink "OpenGraves$Script" 18 "OpenGraves$Script" "to" "[I" ∈ og_tbl := og_mc1 135 rfl rfl
theorem og_w136 : Cond.fieldLinkNest "OpenGraves$Reckoner" 15 "OpenGraves$Script" "to" "[I" "OpenGraves" ∈ og_nest := og_nc1 136 rfl rfl
theorem og_w137 : Cond.fieldLink "OpenGraves$Script" 21 "OpenGraves$Script" "size" "I" ∈ og_tbl := og_mc1 137 rfl rfl
theorem og_w147 : Cond.fieldLink "OpenGraves$Parish" 12 "OpenGraves$Parish" "beginning" "LOpenGraves$Yard;" ∈ og_tbl := og_mc1 147 rfl rfl
theorem og_w148 : Cond.fieldLinkNest "OpenGraves" 126 "OpenGraves$Parish" "beginning" "LOpenGraves$Yard;" "OpenGraves" ∈ og_nest := og_nc1 148 rfl rfl
theorem og_w149 : Cond.fieldLink "OpenGraves$Parish" 21 "OpenGraves$Parish" "rules" "LOpenGraves$Script;" ∈ og_tbl := og_mc1 149 rfl rfl
theorem og_w150 : Cond.fieldLinkNest "OpenGraves" 37 "OpenGraves$Parish" "rules" "LOpenGraves$Script;" "OpenGraves" ∈ og_nest := og_nc1 150 rfl rfl
theorem og_w151 : Cond.fieldLink "OpenGraves$Parish" 25 "OpenGraves$Parish" "names" "[I" ∈ og_tbl := og_mc1 151 rfl rfl
theorem og_w165 : Cond.fieldLink "OpenGraves$Tape" 9 "OpenGraves$Tape" "bytes" "[I" ∈ og_tbl := og_mc1 165 rfl rfl
theorem og_w166 : Cond.fieldLinkNest "OpenGraves" 270 "OpenGraves$Tape" "bytes" "[I" "OpenGraves" ∈ og_nest := og_nc1 166 rfl rfl
theorem og_w167 : Cond.fieldLinkNest "OpenGraves" 108 "OpenGraves$Tape" "size" "I" "OpenGraves" ∈ og_nest := og_nc1 167 rfl rfl
theorem og_w168 : Cond.fieldLink "OpenGraves$Tape" 15 "OpenGraves$Tape" "size" "I" ∈ og_tbl := og_mc1 168 rfl rfl
theorem og_w169 : Cond.fieldLinkNest "OpenGraves$Tokens" 44 "OpenGraves$Tape" "size" "I" "OpenGraves" ∈ og_nest := og_nc1 169 rfl rfl
set_option maxRecDepth 8000 in
theorem og_w230 : Cond.fieldLink "OpenGraves$Tokens" 9 "OpenGraves$Tokens" "tape" "LOpenGraves$Tape;" ∈ og_tbl := og_mc1 230 rfl rfl
set_option maxRecDepth 8000 in
theorem og_w231 : Cond.fieldLink "OpenGraves$Tokens" 35 "OpenGraves$Tokens" "at" "I" ∈ og_tbl := og_mc1 231 rfl rfl
set_option maxRecDepth 8000 in
theorem og_w232 : Cond.fieldLink "OpenGraves$Tokens" 59 "OpenGraves$Tokens" "kind" "I" ∈ og_tbl := og_mc1 232 rfl rfl
set_option maxRecDepth 8000 in
theorem og_w233 : Cond.fieldLink "OpenGraves$Tokens" 56 "OpenGraves$Tokens" "start" "I" ∈ og_tbl := og_mc1 233 rfl rfl
set_option maxRecDepth 8000 in
theorem og_w234 : Cond.fieldLinkNest "OpenGraves$Parish" 133 "OpenGraves$Tokens" "start" "I" "OpenGraves" ∈ og_nest := og_nc1 234 rfl rfl
set_option maxRecDepth 8000 in
theorem og_w235 : Cond.fieldLink "OpenGraves$Tokens" 80 "OpenGraves$Tokens" "size" "I" ∈ og_tbl := og_mc1 235 rfl rfl
set_option maxRecDepth 8000 in
theorem og_w236 : Cond.fieldLinkNest "OpenGraves$Parish" 130 "OpenGraves$Tokens" "size" "I" "OpenGraves" ∈ og_nest := og_nc1 236 rfl rfl
set_option maxRecDepth 8000 in
theorem og_w237 : Cond.fieldLink "OpenGraves$Tokens" 74 "OpenGraves$Tokens" "value" "I" ∈ og_tbl := og_mc1 237 rfl rfl
set_option maxRecDepth 8000 in
theorem og_w238 : Cond.fieldLinkNest "OpenGraves$Grammar" 94 "OpenGraves$Tokens" "value" "I" "OpenGraves" ∈ og_nest := og_nc1 238 rfl rfl
set_option maxRecDepth 8000 in
theorem og_w239 : Cond.fieldLink "OpenGraves$Tokens" 77 "OpenGraves$Tokens" "spelling" "I" ∈ og_tbl := og_mc1 239 rfl rfl
theorem og_w240 : Cond.fieldLinkNest "OpenGraves$Parish" 140 "OpenGraves$Tokens" "spelling" "I" "OpenGraves" ∈ og_nest := og_nc2 0 rfl rfl
theorem og_w241 : Cond.fieldLink "OpenGraves$Tokens" 38 "OpenGraves$Tokens" "faultKind" "I" ∈ og_tbl := og_mc2 1 rfl rfl
theorem og_w242 : Cond.fieldLinkNest "OpenGraves$Grammar" 48 "OpenGraves$Tokens" "faultKind" "I" "OpenGraves" ∈ og_nest := og_nc2 2 rfl rfl
theorem og_w243 : Cond.fieldLinkNest "OpenGraves$Parish" 53 "OpenGraves$Tokens" "faultKind" "I" "OpenGraves" ∈ og_nest := og_nc2 3 rfl rfl
theorem og_w244 : Cond.fieldLinkNest "OpenGraves" 361 "OpenGraves$Tokens" "faultKind" "I" "OpenGraves" ∈ og_nest := og_nc2 4 rfl rfl
theorem og_w245 : Cond.fieldLink "OpenGraves$Tokens" 15 "OpenGraves$Tokens" "faultPlace" "I" ∈ og_tbl := og_mc2 5 rfl rfl
theorem og_w246 : Cond.fieldLinkNest "OpenGraves" 362 "OpenGraves$Tokens" "faultPlace" "I" "OpenGraves" ∈ og_nest := og_nc2 6 rfl rfl
theorem og_w247 : Cond.fieldLink "OpenGraves$Tokens" 19 "OpenGraves$Tokens" "spellings" "[I" ∈ og_tbl := og_mc2 7 rfl rfl
theorem og_w276 : Cond.fieldLink "OpenGraves$Grammar" 9 "OpenGraves$Grammar" "tokens" "LOpenGraves$Tokens;" ∈ og_tbl := og_mc2 36 rfl rfl
theorem og_w277 : Cond.fieldLink "OpenGraves$Grammar" 15 "OpenGraves$Grammar" "script" "LOpenGraves$Script;" ∈ og_tbl := og_mc2 37 rfl rfl
theorem og_w278 : Cond.fieldLink "OpenGraves$Grammar" 52 "OpenGraves$Grammar" "purpose" "I" ∈ og_tbl := og_mc2 38 rfl rfl
theorem og_w292 : Cond.fieldLink "OpenGraves$Reckoner" 11 "OpenGraves$Reckoner" "pile" "[I" ∈ og_tbl := og_mc2 52 rfl rfl
theorem og_w302 : Cond.fieldLink "OpenGraves$Almanac" 9 "OpenGraves$Almanac" "reckoner" "LOpenGraves$Reckoner;" ∈ og_tbl := og_mc2 62 rfl rfl
theorem og_w303 : Cond.fieldLink "OpenGraves$Almanac" 15 "OpenGraves$Almanac" "weight" "[I" ∈ og_tbl := og_mc2 63 rfl rfl
theorem og_w317 : Cond.fieldLink "OpenGraves$Outlook" 9 "OpenGraves$Outlook" "almanac" "LOpenGraves$Almanac;" ∈ og_tbl := og_mc2 77 rfl rfl
theorem og_w318 : Cond.fieldLink "OpenGraves$Outlook" 15 "OpenGraves$Outlook" "reckoner" "LOpenGraves$Reckoner;" ∈ og_tbl := og_mc2 78 rfl rfl
theorem og_w319 : Cond.fieldLink "OpenGraves$Outlook" 22 "OpenGraves$Outlook" "trial" "LOpenGraves$Yard;" ∈ og_tbl := og_mc2 79 rfl rfl
theorem og_w320 : Cond.fieldLinkNest "OpenGraves" 233 "OpenGraves$Outlook" "trial" "LOpenGraves$Yard;" "OpenGraves" ∈ og_nest := og_nc2 80 rfl rfl
theorem og_w321 : Cond.fieldLink "OpenGraves$Outlook" 26 "OpenGraves$Outlook" "seen" "[I" ∈ og_tbl := og_mc2 81 rfl rfl
theorem og_w322 : Cond.fieldLinkNest "OpenGraves" 273 "OpenGraves$Outlook" "seen" "[I" "OpenGraves" ∈ og_nest := og_nc2 82 rfl rfl
theorem og_w323 : Cond.fieldLinkNest "OpenGraves" 136 "OpenGraves$Outlook" "seenRows" "I" "OpenGraves" ∈ og_nest := og_nc2 83 rfl rfl
theorem og_w324 : Cond.fieldLink "OpenGraves$Outlook" 133 "OpenGraves$Outlook" "seenRows" "I" ∈ og_tbl := og_mc2 84 rfl rfl
theorem og_w325 : Cond.fieldLink "OpenGraves$Outlook" 30 "OpenGraves$Outlook" "foot" "[I" ∈ og_tbl := og_mc2 85 rfl rfl
theorem og_w326 : Cond.fieldLink "OpenGraves$Outlook" 33 "OpenGraves$Outlook" "worst" "[I" ∈ og_tbl := og_mc2 86 rfl rfl
theorem og_w327 : Cond.fieldLinkNest "OpenGraves" 260 "OpenGraves$Outlook" "worst" "[I" "OpenGraves" ∈ og_nest := og_nc2 87 rfl rfl
theorem og_w328 : Cond.fieldLink "OpenGraves$Outlook" 36 "OpenGraves$Outlook" "deaths" "[I" ∈ og_tbl := og_mc2 88 rfl rfl
theorem og_w329 : Cond.fieldLink "OpenGraves$Outlook" 39 "OpenGraves$Outlook" "fillings" "[I" ∈ og_tbl := og_mc2 89 rfl rfl
theorem og_w355 : Cond.fieldLink "OpenGraves$Rows" 9 "OpenGraves$Rows" "harm" "[I" ∈ og_tbl := og_mc2 115 rfl rfl
theorem og_w356 : Cond.fieldLinkNest "OpenGraves" 239 "OpenGraves$Rows" "harm" "[I" "OpenGraves" ∈ og_nest := og_nc2 116 rfl rfl
theorem og_w357 : Cond.fieldLink "OpenGraves$Rows" 15 "OpenGraves$Rows" "chosen" "[I" ∈ og_tbl := og_mc2 117 rfl rfl
theorem og_w358 : Cond.fieldLinkNest "OpenGraves" 251 "OpenGraves$Rows" "chosen" "[I" "OpenGraves" ∈ og_nest := og_nc2 118 rfl rfl
theorem og_w359 : Cond.fieldLink "OpenGraves$Rows" 18 "OpenGraves$Rows" "best" "[I" ∈ og_tbl := og_mc2 119 rfl rfl
theorem og_w376 : Cond.fieldLink "OpenGraves$Past" 11 "OpenGraves$Past" "yards" "[LOpenGraves$Yard;" ∈ og_tbl := og_mc2 136 rfl rfl
theorem og_w377 : Cond.fieldLink "OpenGraves$Past" 18 "OpenGraves$Past" "count" "I" ∈ og_tbl := og_mc2 137 rfl rfl
theorem og_w378 : Cond.fieldLinkNest "OpenGraves" 164 "OpenGraves$Past" "count" "I" "OpenGraves" ∈ og_nest := og_nc2 138 rfl rfl
theorem og_w379 : Cond.fieldLink "OpenGraves$Past" 22 "OpenGraves$Past" "oldest" "I" ∈ og_tbl := og_mc2 139 rfl rfl
theorem og_w389 : Cond.fieldLink "OpenGraves" 22 "OpenGraves" "tape" "LOpenGraves$Tape;" ∈ og_tbl := og_mc2 149 rfl rfl
theorem og_w390 : Cond.fieldLink "OpenGraves" 31 "OpenGraves" "tokens" "LOpenGraves$Tokens;" ∈ og_tbl := og_mc2 150 rfl rfl
theorem og_w391 : Cond.fieldLink "OpenGraves" 44 "OpenGraves" "grammar" "LOpenGraves$Grammar;" ∈ og_tbl := og_mc2 151 rfl rfl
theorem og_w392 : Cond.fieldLink "OpenGraves" 51 "OpenGraves" "reckoner" "LOpenGraves$Reckoner;" ∈ og_tbl := og_mc2 152 rfl rfl
theorem og_w393 : Cond.fieldLink "OpenGraves" 60 "OpenGraves" "almanac" "LOpenGraves$Almanac;" ∈ og_tbl := og_mc2 153 rfl rfl
theorem og_w394 : Cond.fieldLink "OpenGraves" 69 "OpenGraves" "outlook" "LOpenGraves$Outlook;" ∈ og_tbl := og_mc2 154 rfl rfl
theorem og_w395 : Cond.fieldLink "OpenGraves" 76 "OpenGraves" "rows" "LOpenGraves$Rows;" ∈ og_tbl := og_mc2 155 rfl rfl
theorem og_w396 : Cond.fieldLink "OpenGraves" 83 "OpenGraves" "past" "LOpenGraves$Past;" ∈ og_tbl := og_mc2 156 rfl rfl
theorem og_w397 : Cond.fieldLink "OpenGraves" 90 "OpenGraves" "now" "LOpenGraves$Yard;" ∈ og_tbl := og_mc2 157 rfl rfl
theorem og_w398 : Cond.fieldLink "OpenGraves" 94 "OpenGraves" "refused" "[I" ∈ og_tbl := og_mc2 158 rfl rfl
theorem og_w399 : Cond.fieldLink "OpenGraves" 98 "OpenGraves" "picture" "[I" ∈ og_tbl := og_mc2 159 rfl rfl
theorem og_w400 : Cond.fieldLink "OpenGraves" 343 "OpenGraves" "pictureSize" "I" ∈ og_tbl := og_mc2 160 rfl rfl
theorem og_w401 : Cond.fieldLink "OpenGraves" 101 "OpenGraves" "luck" "I" ∈ og_tbl := og_mc2 161 rfl rfl
theorem og_w402 : Cond.fieldLink "OpenGraves" 139 "OpenGraves" "faultKind" "I" ∈ og_tbl := og_mc2 162 rfl rfl
theorem og_w403 : Cond.fieldLink "OpenGraves" 105 "OpenGraves" "faultPlace" "I" ∈ og_tbl := og_mc2 163 rfl rfl
theorem og_w404 : Cond.fieldLink "OpenGraves" 10 "OpenGraves" "told" "LOpenGraves$Parish;" ∈ og_tbl := og_mc2 164 rfl rfl
theorem og_w405 : Cond.fieldLink "OpenGraves" 16 "OpenGraves" "draft" "LOpenGraves$Parish;" ∈ og_tbl := og_mc2 165 rfl rfl
set_option maxRecDepth 8000 in
theorem og_w442 : Cond.instanceMethod ⟨"OpenGraves", "feed", "(IIIII)I"⟩ ∈ og_tbl := og_mc2 202 rfl rfl
set_option maxRecDepth 8000 in
theorem og_w443 : Cond.selects "OpenGraves" ⟨"OpenGraves", "feed", "(IIIII)I"⟩ ⟨"OpenGraves", "feed", "(IIIII)I"⟩ ∈ og_tbl := og_mc2 203 rfl rfl
set_option maxRecDepth 8000 in
theorem og_w444 : Cond.code ⟨"OpenGraves", "feed", "(IIIII)I"⟩ prog_1_method_2_code 6 (some .int) ∈ og_tbl := og_mc2 204 rfl rfl
set_option maxRecDepth 8000 in
theorem og_w445 : Cond.methodLink "OpenGraves" 111 ⟨"OpenGraves", "refuse", "(I)I"⟩ ∈ og_tbl := og_mc2 205 rfl rfl
set_option maxRecDepth 8000 in
theorem og_w447 : Cond.instanceMethod ⟨"OpenGraves", "refuse", "(I)I"⟩ ∈ og_tbl := og_mc2 207 rfl rfl
set_option maxRecDepth 8000 in
theorem og_w448 : Cond.code ⟨"OpenGraves", "refuse", "(I)I"⟩ prog_1_method_35_code 2 (some .int) ∈ og_tbl := og_mc2 208 rfl rfl
set_option maxRecDepth 8000 in
theorem og_w449 : Cond.methodLink "OpenGraves" 115 ⟨"OpenGraves$Tape", "add", "(I)V"⟩ ∈ og_tbl := og_mc2 209 rfl rfl
set_option maxRecDepth 8000 in
theorem og_w450 : Cond.instanceMethod ⟨"OpenGraves$Tape", "add", "(I)V"⟩ ∈ og_tbl := og_mc2 210 rfl rfl
set_option maxRecDepth 8000 in
theorem og_w451 : Cond.selects "OpenGraves$Tape" ⟨"OpenGraves$Tape", "add", "(I)V"⟩ ⟨"OpenGraves$Tape", "add", "(I)V"⟩ ∈ og_tbl := og_mc2 211 rfl rfl
set_option maxRecDepth 8000 in
theorem og_w452 : Cond.code ⟨"OpenGraves$Tape", "add", "(I)V"⟩ prog_10_method_2_code 3 none ∈ og_tbl := og_mc2 212 rfl rfl
set_option maxRecDepth 8000 in
theorem og_w454 : Cond.instanceMethod ⟨"OpenGraves", "end", "(I)Z"⟩ ∈ og_tbl := og_mc2 214 rfl rfl
set_option maxRecDepth 8000 in
theorem og_w455 : Cond.selects "OpenGraves" ⟨"OpenGraves", "end", "(I)Z"⟩ ⟨"OpenGraves", "end", "(I)Z"⟩ ∈ og_tbl := og_mc2 215 rfl rfl
set_option maxRecDepth 8000 in
theorem og_w456 : Cond.code ⟨"OpenGraves", "end", "(I)Z"⟩ prog_1_method_3_code 2 (some .boolean) ∈ og_tbl := og_mc2 216 rfl rfl
set_option maxRecDepth 8000 in
theorem og_w458 : Cond.instanceMethod ⟨"OpenGraves", "parish", "()I"⟩ ∈ og_tbl := og_mc2 218 rfl rfl
set_option maxRecDepth 8000 in
theorem og_w459 : Cond.selects "OpenGraves" ⟨"OpenGraves", "parish", "()I"⟩ ⟨"OpenGraves", "parish", "()I"⟩ ∈ og_tbl := og_mc2 219 rfl rfl
set_option maxRecDepth 8000 in
theorem og_w460 : Cond.code ⟨"OpenGraves", "parish", "()I"⟩ prog_1_method_4_code 3 (some .int) ∈ og_tbl := og_mc2 220 rfl rfl
set_option maxRecDepth 8000 in
theorem og_w461 : Cond.methodLink "OpenGraves" 119 ⟨"OpenGraves$Parish", "read", "(LOpenGraves$Tokens;LOpenGraves$Grammar;)I"⟩ ∈ og_tbl := og_mc2 221 rfl rfl
set_option maxRecDepth 8000 in
theorem og_w462 : Cond.instanceMethod ⟨"OpenGraves$Parish", "read", "(LOpenGraves$Tokens;LOpenGraves$Grammar;)I"⟩ ∈ og_tbl := og_mc2 222 rfl rfl
set_option maxRecDepth 8000 in
theorem og_w463 : Cond.selects "OpenGraves$Parish" ⟨"OpenGraves$Parish", "read", "(LOpenGraves$Tokens;LOpenGraves$Grammar;)I"⟩ ⟨"OpenGraves$Parish", "read", "(LOpenGraves$Tokens;LOpenGraves$Grammar;)I"⟩ ∈ og_tbl := og_mc2 223 rfl rfl
set_option maxRecDepth 8000 in
theorem og_w464 : Cond.code ⟨"OpenGraves$Parish", "read", "(LOpenGraves$Tokens;LOpenGraves$Grammar;)I"⟩ prog_5_method_3_code 4 (some .int) ∈ og_tbl := og_mc2 224 rfl rfl
set_option maxRecDepth 8000 in
theorem og_w465 : Cond.methodLink "OpenGraves$Parish" 29 ⟨"OpenGraves$Yard", "clear", "()V"⟩ ∈ og_tbl := og_mc2 225 rfl rfl
set_option maxRecDepth 8000 in
theorem og_w466 : Cond.instanceMethod ⟨"OpenGraves$Yard", "clear", "()V"⟩ ∈ og_tbl := og_mc2 226 rfl rfl
set_option maxRecDepth 8000 in
theorem og_w467 : Cond.selects "OpenGraves$Yard" ⟨"OpenGraves$Yard", "clear", "()V"⟩ ⟨"OpenGraves$Yard", "clear", "()V"⟩ ∈ og_tbl := og_mc2 227 rfl rfl
set_option maxRecDepth 8000 in
theorem og_w468 : Cond.code ⟨"OpenGraves$Yard", "clear", "()V"⟩ prog_12_method_2_code 1 none ∈ og_tbl := og_mc2 228 rfl rfl
set_option maxRecDepth 8000 in
theorem og_w469 : Cond.methodLink "OpenGraves$Parish" 32 ⟨"OpenGraves$Script", "clear", "()V"⟩ ∈ og_tbl := og_mc2 229 rfl rfl
set_option maxRecDepth 8000 in
theorem og_w470 : Cond.instanceMethod ⟨"OpenGraves$Script", "clear", "()V"⟩ ∈ og_tbl := og_mc2 230 rfl rfl
set_option maxRecDepth 8000 in
theorem og_w471 : Cond.selects "OpenGraves$Script" ⟨"OpenGraves$Script", "clear", "()V"⟩ ⟨"OpenGraves$Script", "clear", "()V"⟩ ∈ og_tbl := og_mc2 231 rfl rfl
set_option maxRecDepth 8000 in
theorem og_w472 : Cond.code ⟨"OpenGraves$Script", "clear", "()V"⟩ prog_9_method_2_code 2 none ∈ og_tbl := og_mc2 232 rfl rfl
set_option maxRecDepth 8000 in
theorem og_w473 : Cond.methodLink "OpenGraves$Parish" 33 ⟨"OpenGraves$Tokens", "begin", "()V"⟩ ∈ og_tbl := og_mc2 233 rfl rfl
set_option maxRecDepth 8000 in
theorem og_w474 : Cond.instanceMethod ⟨"OpenGraves$Tokens", "begin", "()V"⟩ ∈ og_tbl := og_mc2 234 rfl rfl
set_option maxRecDepth 8000 in
theorem og_w475 : Cond.selects "OpenGraves$Tokens" ⟨"OpenGraves$Tokens", "begin", "()V"⟩ ⟨"OpenGraves$Tokens", "begin", "()V"⟩ ∈ og_tbl := og_mc2 235 rfl rfl
set_option maxRecDepth 8000 in
theorem og_w476 : Cond.code ⟨"OpenGraves$Tokens", "begin", "()V"⟩ prog_11_method_2_code 1 none ∈ og_tbl := og_mc2 236 rfl rfl
set_option maxRecDepth 8000 in
theorem og_w477 : Cond.methodLink "OpenGraves$Tokens" 41 ⟨"OpenGraves$Tokens", "step", "()V"⟩ ∈ og_tbl := og_mc2 237 rfl rfl
set_option maxRecDepth 8000 in
theorem og_w478 : Cond.instanceMethod ⟨"OpenGraves$Tokens", "step", "()V"⟩ ∈ og_tbl := og_mc2 238 rfl rfl
set_option maxRecDepth 8000 in
theorem og_w479 : Cond.selects "OpenGraves$Tokens" ⟨"OpenGraves$Tokens", "step", "()V"⟩ ⟨"OpenGraves$Tokens", "step", "()V"⟩ ∈ og_tbl := og_mc2 239 rfl rfl
theorem og_w480 : Cond.code ⟨"OpenGraves$Tokens", "step", "()V"⟩ prog_11_method_3_code 2 none ∈ og_tbl := og_mc3 0 rfl rfl
theorem og_w481 : Cond.methodLink "OpenGraves$Tokens" 49 ⟨"OpenGraves$Tape", "at", "(I)I"⟩ ∈ og_tbl := og_mc3 1 rfl rfl
theorem og_w482 : Cond.instanceMethod ⟨"OpenGraves$Tape", "at", "(I)I"⟩ ∈ og_tbl := og_mc3 2 rfl rfl
theorem og_w483 : Cond.selects "OpenGraves$Tape" ⟨"OpenGraves$Tape", "at", "(I)I"⟩ ⟨"OpenGraves$Tape", "at", "(I)I"⟩ ∈ og_tbl := og_mc3 3 rfl rfl
theorem og_w484 : Cond.code ⟨"OpenGraves$Tape", "at", "(I)I"⟩ prog_10_method_3_code 2 (some .int) ∈ og_tbl := og_mc3 4 rfl rfl
theorem og_w485 : Cond.methodLink "OpenGraves$Tokens" 52 ⟨"OpenGraves$Tokens", "isBlank", "(I)Z"⟩ ∈ og_tbl := og_mc3 5 rfl rfl
theorem og_w486 : Cond.static ⟨"OpenGraves$Tokens", "isBlank", "(I)Z"⟩ ∈ og_tbl := og_mc3 6 rfl rfl
theorem og_w487 : Cond.code ⟨"OpenGraves$Tokens", "isBlank", "(I)Z"⟩ prog_11_method_7_code 1 (some .boolean) ∈ og_tbl := og_mc3 7 rfl rfl
theorem og_w488 : Cond.methodLink "OpenGraves$Tokens" 62 ⟨"OpenGraves$Tokens", "isLetter", "(I)Z"⟩ ∈ og_tbl := og_mc3 8 rfl rfl
theorem og_w489 : Cond.static ⟨"OpenGraves$Tokens", "isLetter", "(I)Z"⟩ ∈ og_tbl := og_mc3 9 rfl rfl
theorem og_w490 : Cond.code ⟨"OpenGraves$Tokens", "isLetter", "(I)Z"⟩ prog_11_method_8_code 1 (some .boolean) ∈ og_tbl := og_mc3 10 rfl rfl
theorem og_w491 : Cond.methodLink "OpenGraves$Tokens" 65 ⟨"OpenGraves$Tokens", "readWord", "()V"⟩ ∈ og_tbl := og_mc3 11 rfl rfl
theorem og_w493 : Cond.instanceMethod ⟨"OpenGraves$Tokens", "readWord", "()V"⟩ ∈ og_tbl := og_mc3 13 rfl rfl
theorem og_w494 : Cond.code ⟨"OpenGraves$Tokens", "readWord", "()V"⟩ prog_11_method_4_code 2 none ∈ og_tbl := og_mc3 14 rfl rfl
theorem og_w495 : Cond.methodLink "OpenGraves$Tokens" 81 ⟨"OpenGraves$Tokens", "wordNumber", "()I"⟩ ∈ og_tbl := og_mc3 15 rfl rfl
theorem og_w497 : Cond.instanceMethod ⟨"OpenGraves$Tokens", "wordNumber", "()I"⟩ ∈ og_tbl := og_mc3 17 rfl rfl
theorem og_w498 : Cond.code ⟨"OpenGraves$Tokens", "wordNumber", "()I"⟩ prog_11_method_6_code 2 (some .int) ∈ og_tbl := og_mc3 18 rfl rfl
theorem og_w499 : Cond.methodLink "OpenGraves$Tokens" 68 ⟨"OpenGraves$Tokens", "isDigit", "(I)Z"⟩ ∈ og_tbl := og_mc3 19 rfl rfl
theorem og_w500 : Cond.static ⟨"OpenGraves$Tokens", "isDigit", "(I)Z"⟩ ∈ og_tbl := og_mc3 20 rfl rfl
theorem og_w501 : Cond.code ⟨"OpenGraves$Tokens", "isDigit", "(I)Z"⟩ prog_11_method_9_code 1 (some .boolean) ∈ og_tbl := og_mc3 21 rfl rfl
theorem og_w502 : Cond.methodLink "OpenGraves$Tokens" 71 ⟨"OpenGraves$Tokens", "readNumber", "()V"⟩ ∈ og_tbl := og_mc3 22 rfl rfl
theorem og_w504 : Cond.instanceMethod ⟨"OpenGraves$Tokens", "readNumber", "()V"⟩ ∈ og_tbl := og_mc3 24 rfl rfl
theorem og_w505 : Cond.code ⟨"OpenGraves$Tokens", "readNumber", "()V"⟩ prog_11_method_5_code 1 none ∈ og_tbl := og_mc3 25 rfl rfl
theorem og_w506 : Cond.methodLink "OpenGraves$Parish" 38 ⟨"OpenGraves$Tokens", "goesOn", "()Z"⟩ ∈ og_tbl := og_mc3 26 rfl rfl
theorem og_w507 : Cond.instanceMethod ⟨"OpenGraves$Tokens", "goesOn", "()Z"⟩ ∈ og_tbl := og_mc3 27 rfl rfl
theorem og_w508 : Cond.selects "OpenGraves$Tokens" ⟨"OpenGraves$Tokens", "goesOn", "()Z"⟩ ⟨"OpenGraves$Tokens", "goesOn", "()Z"⟩ ∈ og_tbl := og_mc3 28 rfl rfl
theorem og_w509 : Cond.code ⟨"OpenGraves$Tokens", "goesOn", "()Z"⟩ prog_11_method_12_code 1 (some .boolean) ∈ og_tbl := og_mc3 29 rfl rfl
theorem og_w510 : Cond.methodLink "OpenGraves$Parish" 42 ⟨"OpenGraves$Parish", "readStatement", "(LOpenGraves$Tokens;LOpenGraves$Grammar;)V"⟩ ∈ og_tbl := og_mc3 30 rfl rfl
theorem og_w512 : Cond.instanceMethod ⟨"OpenGraves$Parish", "readStatement", "(LOpenGraves$Tokens;LOpenGraves$Grammar;)V"⟩ ∈ og_tbl := og_mc3 32 rfl rfl
theorem og_w513 : Cond.code ⟨"OpenGraves$Parish", "readStatement", "(LOpenGraves$Tokens;LOpenGraves$Grammar;)V"⟩ prog_5_method_4_code 4 none ∈ og_tbl := og_mc3 33 rfl rfl
theorem og_w514 : Cond.methodLink "OpenGraves$Parish" 57 ⟨"OpenGraves$Tokens", "word", "()I"⟩ ∈ og_tbl := og_mc3 34 rfl rfl
theorem og_w515 : Cond.instanceMethod ⟨"OpenGraves$Tokens", "word", "()I"⟩ ∈ og_tbl := og_mc3 35 rfl rfl
theorem og_w516 : Cond.selects "OpenGraves$Tokens" ⟨"OpenGraves$Tokens", "word", "()I"⟩ ⟨"OpenGraves$Tokens", "word", "()I"⟩ ∈ og_tbl := og_mc3 36 rfl rfl
theorem og_w517 : Cond.code ⟨"OpenGraves$Tokens", "word", "()I"⟩ prog_11_method_16_code 1 (some .int) ∈ og_tbl := og_mc3 37 rfl rfl
theorem og_w518 : Cond.methodLink "OpenGraves$Parish" 61 ⟨"OpenGraves$Tokens", "fail", "(I)V"⟩ ∈ og_tbl := og_mc3 38 rfl rfl
theorem og_w519 : Cond.instanceMethod ⟨"OpenGraves$Tokens", "fail", "(I)V"⟩ ∈ og_tbl := og_mc3 39 rfl rfl
theorem og_w520 : Cond.selects "OpenGraves$Tokens" ⟨"OpenGraves$Tokens", "fail", "(I)V"⟩ ⟨"OpenGraves$Tokens", "fail", "(I)V"⟩ ∈ og_tbl := og_mc3 40 rfl rfl
theorem og_w521 : Cond.code ⟨"OpenGraves$Tokens", "fail", "(I)V"⟩ prog_11_method_10_code 2 none ∈ og_tbl := og_mc3 41 rfl rfl
theorem og_w522 : Cond.methodLink "OpenGraves$Tokens" 84 ⟨"OpenGraves$Tokens", "failAt", "(II)V"⟩ ∈ og_tbl := og_mc3 42 rfl rfl
theorem og_w523 : Cond.instanceMethod ⟨"OpenGraves$Tokens", "failAt", "(II)V"⟩ ∈ og_tbl := og_mc3 43 rfl rfl
theorem og_w524 : Cond.selects "OpenGraves$Tokens" ⟨"OpenGraves$Tokens", "failAt", "(II)V"⟩ ⟨"OpenGraves$Tokens", "failAt", "(II)V"⟩ ∈ og_tbl := og_mc3 44 rfl rfl
theorem og_w525 : Cond.code ⟨"OpenGraves$Tokens", "failAt", "(II)V"⟩ prog_11_method_11_code 3 none ∈ og_tbl := og_mc3 45 rfl rfl
theorem og_w526 : Cond.methodLink "OpenGraves$Parish" 64 ⟨"OpenGraves$Parish", "isOneTooMany", "(I)Z"⟩ ∈ og_tbl := og_mc3 46 rfl rfl
theorem og_w528 : Cond.instanceMethod ⟨"OpenGraves$Parish", "isOneTooMany", "(I)Z"⟩ ∈ og_tbl := og_mc3 48 rfl rfl
theorem og_w529 : Cond.code ⟨"OpenGraves$Parish", "isOneTooMany", "(I)Z"⟩ prog_5_method_5_code 2 (some .boolean) ∈ og_tbl := og_mc3 49 rfl rfl
theorem og_w530 : Cond.methodLink "OpenGraves$Parish" 90 ⟨"OpenGraves$Script", "holds", "(I)Z"⟩ ∈ og_tbl := og_mc3 50 rfl rfl
theorem og_w531 : Cond.instanceMethod ⟨"OpenGraves$Script", "holds", "(I)Z"⟩ ∈ og_tbl := og_mc3 51 rfl rfl
theorem og_w532 : Cond.selects "OpenGraves$Script" ⟨"OpenGraves$Script", "holds", "(I)Z"⟩ ⟨"OpenGraves$Script", "holds", "(I)Z"⟩ ∈ og_tbl := og_mc3 52 rfl rfl
theorem og_w533 : Cond.code ⟨"OpenGraves$Script", "holds", "(I)Z"⟩ prog_9_method_3_code 2 (some .boolean) ∈ og_tbl := og_mc3 53 rfl rfl
theorem og_w534 : Cond.methodLink "OpenGraves$Parish" 68 ⟨"OpenGraves$Tokens", "step", "()V"⟩ ∈ og_tbl := og_mc3 54 rfl rfl
theorem og_w535 : Cond.methodLink "OpenGraves$Parish" 74 ⟨"OpenGraves$Parish", "readGrave", "(LOpenGraves$Tokens;I)V"⟩ ∈ og_tbl := og_mc3 55 rfl rfl
theorem og_w537 : Cond.instanceMethod ⟨"OpenGraves$Parish", "readGrave", "(LOpenGraves$Tokens;I)V"⟩ ∈ og_tbl := og_mc3 57 rfl rfl
theorem og_w538 : Cond.code ⟨"OpenGraves$Parish", "readGrave", "(LOpenGraves$Tokens;I)V"⟩ prog_5_method_6_code 3 none ∈ og_tbl := og_mc3 58 rfl rfl
theorem og_w539 : Cond.methodLink "OpenGraves$Parish" 93 ⟨"OpenGraves$Parish", "readName", "(LOpenGraves$Tokens;I)V"⟩ ∈ og_tbl := og_mc3 59 rfl rfl
theorem og_w541 : Cond.instanceMethod ⟨"OpenGraves$Parish", "readName", "(LOpenGraves$Tokens;I)V"⟩ ∈ og_tbl := og_mc3 61 rfl rfl
theorem og_w542 : Cond.code ⟨"OpenGraves$Parish", "readName", "(LOpenGraves$Tokens;I)V"⟩ prog_5_method_8_code 3 none ∈ og_tbl := og_mc3 62 rfl rfl
theorem og_w543 : Cond.methodLink "OpenGraves$Parish" 127 ⟨"OpenGraves$Tokens", "isName", "()Z"⟩ ∈ og_tbl := og_mc3 63 rfl rfl
theorem og_w544 : Cond.instanceMethod ⟨"OpenGraves$Tokens", "isName", "()Z"⟩ ∈ og_tbl := og_mc3 64 rfl rfl
theorem og_w545 : Cond.selects "OpenGraves$Tokens" ⟨"OpenGraves$Tokens", "isName", "()Z"⟩ ⟨"OpenGraves$Tokens", "isName", "()Z"⟩ ∈ og_tbl := og_mc3 65 rfl rfl
theorem og_w546 : Cond.code ⟨"OpenGraves$Tokens", "isName", "()Z"⟩ prog_11_method_17_code 1 (some .boolean) ∈ og_tbl := og_mc3 66 rfl rfl
theorem og_w547 : Cond.methodLink "OpenGraves$Parish" 136 ⟨"OpenGraves$Tokens", "failAt", "(II)V"⟩ ∈ og_tbl := og_mc3 67 rfl rfl
theorem og_w548 : Cond.methodLink "OpenGraves$Parish" 143 ⟨"OpenGraves$Parish", "isThere", "(I)Z"⟩ ∈ og_tbl := og_mc3 68 rfl rfl
theorem og_w550 : Cond.instanceMethod ⟨"OpenGraves$Parish", "isThere", "(I)Z"⟩ ∈ og_tbl := og_mc3 70 rfl rfl
theorem og_w551 : Cond.code ⟨"OpenGraves$Parish", "isThere", "(I)Z"⟩ prog_5_method_9_code 4 (some .boolean) ∈ og_tbl := og_mc3 71 rfl rfl
theorem og_w552 : Cond.methodLink "OpenGraves$Parish" 96 ⟨"OpenGraves$Tokens", "takeWord", "(I)V"⟩ ∈ og_tbl := og_mc3 72 rfl rfl
theorem og_w553 : Cond.instanceMethod ⟨"OpenGraves$Tokens", "takeWord", "(I)V"⟩ ∈ og_tbl := og_mc3 73 rfl rfl
theorem og_w554 : Cond.selects "OpenGraves$Tokens" ⟨"OpenGraves$Tokens", "takeWord", "(I)V"⟩ ⟨"OpenGraves$Tokens", "takeWord", "(I)V"⟩ ∈ og_tbl := og_mc3 74 rfl rfl
theorem og_w555 : Cond.code ⟨"OpenGraves$Tokens", "takeWord", "(I)V"⟩ prog_11_method_18_code 2 none ∈ og_tbl := og_mc3 75 rfl rfl
theorem og_w556 : Cond.methodLink "OpenGraves$Tokens" 88 ⟨"OpenGraves$Tokens", "isWord", "(I)Z"⟩ ∈ og_tbl := og_mc3 76 rfl rfl
theorem og_w557 : Cond.instanceMethod ⟨"OpenGraves$Tokens", "isWord", "(I)Z"⟩ ∈ og_tbl := og_mc3 77 rfl rfl
theorem og_w558 : Cond.selects "OpenGraves$Tokens" ⟨"OpenGraves$Tokens", "isWord", "(I)Z"⟩ ⟨"OpenGraves$Tokens", "isWord", "(I)Z"⟩ ∈ og_tbl := og_mc3 78 rfl rfl
theorem og_w559 : Cond.code ⟨"OpenGraves$Tokens", "isWord", "(I)Z"⟩ prog_11_method_15_code 2 (some .boolean) ∈ og_tbl := og_mc3 79 rfl rfl
theorem og_w560 : Cond.methodLink "OpenGraves$Tokens" 91 ⟨"OpenGraves$Tokens", "fail", "(I)V"⟩ ∈ og_tbl := og_mc3 80 rfl rfl
theorem og_w561 : Cond.methodLink "OpenGraves$Parish" 102 ⟨"OpenGraves$Tokens", "takeNumber", "(II)I"⟩ ∈ og_tbl := og_mc3 81 rfl rfl
theorem og_w562 : Cond.instanceMethod ⟨"OpenGraves$Tokens", "takeNumber", "(II)I"⟩ ∈ og_tbl := og_mc3 82 rfl rfl
theorem og_w563 : Cond.selects "OpenGraves$Tokens" ⟨"OpenGraves$Tokens", "takeNumber", "(II)I"⟩ ⟨"OpenGraves$Tokens", "takeNumber", "(II)I"⟩ ∈ og_tbl := og_mc3 83 rfl rfl
theorem og_w564 : Cond.code ⟨"OpenGraves$Tokens", "takeNumber", "(II)I"⟩ prog_11_method_20_code 4 (some .int) ∈ og_tbl := og_mc3 84 rfl rfl
theorem og_w565 : Cond.methodLink "OpenGraves$Parish" 81 ⟨"OpenGraves$Parish", "readPerson", "(LOpenGraves$Tokens;I)V"⟩ ∈ og_tbl := og_mc3 85 rfl rfl
theorem og_w567 : Cond.instanceMethod ⟨"OpenGraves$Parish", "readPerson", "(LOpenGraves$Tokens;I)V"⟩ ∈ og_tbl := og_mc3 87 rfl rfl
theorem og_w568 : Cond.code ⟨"OpenGraves$Parish", "readPerson", "(LOpenGraves$Tokens;I)V"⟩ prog_5_method_7_code 3 none ∈ og_tbl := og_mc3 88 rfl rfl
theorem og_w569 : Cond.methodLink "OpenGraves$Parish" 84 ⟨"OpenGraves$Grammar", "readRule", "(LOpenGraves$Script;IZ)V"⟩ ∈ og_tbl := og_mc3 89 rfl rfl
theorem og_w570 : Cond.instanceMethod ⟨"OpenGraves$Grammar", "readRule", "(LOpenGraves$Script;IZ)V"⟩ ∈ og_tbl := og_mc3 90 rfl rfl
theorem og_w571 : Cond.selects "OpenGraves$Grammar" ⟨"OpenGraves$Grammar", "readRule", "(LOpenGraves$Script;IZ)V"⟩ ⟨"OpenGraves$Grammar", "readRule", "(LOpenGraves$Script;IZ)V"⟩ ∈ og_tbl := og_mc3 91 rfl rfl
theorem og_w572 : Cond.code ⟨"OpenGraves$Grammar", "readRule", "(LOpenGraves$Script;IZ)V"⟩ prog_3_method_3_code 4 none ∈ og_tbl := og_mc3 92 rfl rfl
theorem og_w573 : Cond.methodLink "OpenGraves$Grammar" 55 ⟨"OpenGraves$Script", "begin", "(I)V"⟩ ∈ og_tbl := og_mc3 93 rfl rfl
theorem og_w574 : Cond.instanceMethod ⟨"OpenGraves$Script", "begin", "(I)V"⟩ ∈ og_tbl := og_mc3 94 rfl rfl
theorem og_w575 : Cond.selects "OpenGraves$Script" ⟨"OpenGraves$Script", "begin", "(I)V"⟩ ⟨"OpenGraves$Script", "begin", "(I)V"⟩ ∈ og_tbl := og_mc3 95 rfl rfl
theorem og_w576 : Cond.code ⟨"OpenGraves$Script", "begin", "(I)V"⟩ prog_9_method_4_code 2 none ∈ og_tbl := og_mc3 96 rfl rfl
theorem og_w577 : Cond.methodLink "OpenGraves$Grammar" 57 ⟨"OpenGraves$Grammar", "test", "(I)V"⟩ ∈ og_tbl := og_mc3 97 rfl rfl
theorem og_w579 : Cond.instanceMethod ⟨"OpenGraves$Grammar", "test", "(I)V"⟩ ∈ og_tbl := og_mc3 99 rfl rfl
theorem og_w580 : Cond.code ⟨"OpenGraves$Grammar", "test", "(I)V"⟩ prog_3_method_4_code 3 none ∈ og_tbl := og_mc3 100 rfl rfl
theorem og_w581 : Cond.methodLink "OpenGraves$Grammar" 66 ⟨"OpenGraves$Grammar", "both", "(I)V"⟩ ∈ og_tbl := og_mc3 101 rfl rfl
theorem og_w583 : Cond.instanceMethod ⟨"OpenGraves$Grammar", "both", "(I)V"⟩ ∈ og_tbl := og_mc3 103 rfl rfl
theorem og_w584 : Cond.code ⟨"OpenGraves$Grammar", "both", "(I)V"⟩ prog_3_method_5_code 3 none ∈ og_tbl := og_mc3 104 rfl rfl
theorem og_w585 : Cond.methodLink "OpenGraves$Grammar" 76 ⟨"OpenGraves$Grammar", "fact", "(I)V"⟩ ∈ og_tbl := og_mc3 105 rfl rfl
theorem og_w587 : Cond.instanceMethod ⟨"OpenGraves$Grammar", "fact", "(I)V"⟩ ∈ og_tbl := og_mc3 107 rfl rfl
theorem og_w588 : Cond.code ⟨"OpenGraves$Grammar", "fact", "(I)V"⟩ prog_3_method_6_code 2 none ∈ og_tbl := og_mc3 108 rfl rfl
theorem og_w589 : Cond.methodLink "OpenGraves$Grammar" 69 ⟨"OpenGraves$Tokens", "isWord", "(I)Z"⟩ ∈ og_tbl := og_mc3 109 rfl rfl
theorem og_w590 : Cond.methodLink "OpenGraves$Grammar" 79 ⟨"OpenGraves$Grammar", "opens", "(I)Z"⟩ ∈ og_tbl := og_mc3 110 rfl rfl
theorem og_w592 : Cond.instanceMethod ⟨"OpenGraves$Grammar", "opens", "(I)Z"⟩ ∈ og_tbl := og_mc3 112 rfl rfl
theorem og_w593 : Cond.code ⟨"OpenGraves$Grammar", "opens", "(I)Z"⟩ prog_3_method_12_code 2 (some .boolean) ∈ og_tbl := og_mc3 113 rfl rfl
theorem og_w594 : Cond.methodLink "OpenGraves$Grammar" 33 ⟨"OpenGraves$Tokens", "fail", "(I)V"⟩ ∈ og_tbl := og_mc3 114 rfl rfl
theorem og_w595 : Cond.methodLink "OpenGraves$Grammar" 37 ⟨"OpenGraves$Tokens", "step", "()V"⟩ ∈ og_tbl := og_mc3 115 rfl rfl
theorem og_w596 : Cond.methodLink "OpenGraves$Grammar" 73 ⟨"OpenGraves$Script", "addDeed", "(I)V"⟩ ∈ og_tbl := og_mc3 116 rfl rfl
theorem og_w597 : Cond.instanceMethod ⟨"OpenGraves$Script", "addDeed", "(I)V"⟩ ∈ og_tbl := og_mc3 117 rfl rfl
theorem og_w598 : Cond.selects "OpenGraves$Script" ⟨"OpenGraves$Script", "addDeed", "(I)V"⟩ ⟨"OpenGraves$Script", "addDeed", "(I)V"⟩ ∈ og_tbl := og_mc3 118 rfl rfl
theorem og_w599 : Cond.code ⟨"OpenGraves$Script", "addDeed", "(I)V"⟩ prog_9_method_7_code 2 none ∈ og_tbl := og_mc3 119 rfl rfl
theorem og_w600 : Cond.methodLink "OpenGraves$Script" 25 ⟨"OpenGraves$Script", "addNumber", "(I)V"⟩ ∈ og_tbl := og_mc3 120 rfl rfl
theorem og_w601 : Cond.instanceMethod ⟨"OpenGraves$Script", "addNumber", "(I)V"⟩ ∈ og_tbl := og_mc3 121 rfl rfl
theorem og_w602 : Cond.selects "OpenGraves$Script" ⟨"OpenGraves$Script", "addNumber", "(I)V"⟩ ⟨"OpenGraves$Script", "addNumber", "(I)V"⟩ ∈ og_tbl := og_mc3 122 rfl rfl
theorem og_w603 : Cond.code ⟨"OpenGraves$Script", "addNumber", "(I)V"⟩ prog_9_method_6_code 2 none ∈ og_tbl := og_mc3 123 rfl rfl
theorem og_w604 : Cond.methodLink "OpenGraves$Grammar" 82 ⟨"OpenGraves$Tokens", "isSign", "(I)Z"⟩ ∈ og_tbl := og_mc3 124 rfl rfl
theorem og_w605 : Cond.instanceMethod ⟨"OpenGraves$Tokens", "isSign", "(I)Z"⟩ ∈ og_tbl := og_mc3 125 rfl rfl
theorem og_w606 : Cond.selects "OpenGraves$Tokens" ⟨"OpenGraves$Tokens", "isSign", "(I)Z"⟩ ⟨"OpenGraves$Tokens", "isSign", "(I)Z"⟩ ∈ og_tbl := og_mc3 126 rfl rfl
theorem og_w607 : Cond.code ⟨"OpenGraves$Tokens", "isSign", "(I)Z"⟩ prog_11_method_14_code 2 (some .boolean) ∈ og_tbl := og_mc3 127 rfl rfl
theorem og_w608 : Cond.methodLink "OpenGraves$Grammar" 85 ⟨"OpenGraves$Tokens", "takeSign", "(I)V"⟩ ∈ og_tbl := og_mc3 128 rfl rfl
theorem og_w609 : Cond.instanceMethod ⟨"OpenGraves$Tokens", "takeSign", "(I)V"⟩ ∈ og_tbl := og_mc3 129 rfl rfl
theorem og_w610 : Cond.selects "OpenGraves$Tokens" ⟨"OpenGraves$Tokens", "takeSign", "(I)V"⟩ ⟨"OpenGraves$Tokens", "takeSign", "(I)V"⟩ ∈ og_tbl := og_mc3 130 rfl rfl
theorem og_w611 : Cond.code ⟨"OpenGraves$Tokens", "takeSign", "(I)V"⟩ prog_11_method_19_code 2 none ∈ og_tbl := og_mc3 131 rfl rfl
theorem og_w612 : Cond.methodLink "OpenGraves$Tokens" 95 ⟨"OpenGraves$Tokens", "isSign", "(I)Z"⟩ ∈ og_tbl := og_mc3 132 rfl rfl
theorem og_w613 : Cond.methodLink "OpenGraves$Grammar" 88 ⟨"OpenGraves$Script", "addNumber", "(I)V"⟩ ∈ og_tbl := og_mc3 133 rfl rfl
theorem og_w614 : Cond.methodLink "OpenGraves$Grammar" 91 ⟨"OpenGraves$Grammar", "comparison", "(I)V"⟩ ∈ og_tbl := og_mc3 134 rfl rfl
theorem og_w616 : Cond.instanceMethod ⟨"OpenGraves$Grammar", "comparison", "(I)V"⟩ ∈ og_tbl := og_mc3 136 rfl rfl
theorem og_w617 : Cond.code ⟨"OpenGraves$Grammar", "comparison", "(I)V"⟩ prog_3_method_7_code 3 none ∈ og_tbl := og_mc3 137 rfl rfl
theorem og_w618 : Cond.methodLink "OpenGraves$Grammar" 60 ⟨"OpenGraves$Grammar", "sum", "(I)V"⟩ ∈ og_tbl := og_mc3 138 rfl rfl
theorem og_w620 : Cond.instanceMethod ⟨"OpenGraves$Grammar", "sum", "(I)V"⟩ ∈ og_tbl := og_mc3 140 rfl rfl
theorem og_w621 : Cond.code ⟨"OpenGraves$Grammar", "sum", "(I)V"⟩ prog_3_method_8_code 4 none ∈ og_tbl := og_mc3 141 rfl rfl
theorem og_w622 : Cond.methodLink "OpenGraves$Grammar" 97 ⟨"OpenGraves$Grammar", "product", "(I)V"⟩ ∈ og_tbl := og_mc3 142 rfl rfl
theorem og_w624 : Cond.instanceMethod ⟨"OpenGraves$Grammar", "product", "(I)V"⟩ ∈ og_tbl := og_mc3 144 rfl rfl
theorem og_w625 : Cond.code ⟨"OpenGraves$Grammar", "product", "(I)V"⟩ prog_3_method_9_code 4 none ∈ og_tbl := og_mc3 145 rfl rfl
theorem og_w626 : Cond.methodLink "OpenGraves$Grammar" 100 ⟨"OpenGraves$Grammar", "part", "(I)V"⟩ ∈ og_tbl := og_mc3 146 rfl rfl
theorem og_w628 : Cond.instanceMethod ⟨"OpenGraves$Grammar", "part", "(I)V"⟩ ∈ og_tbl := og_mc3 148 rfl rfl
theorem og_w629 : Cond.code ⟨"OpenGraves$Grammar", "part", "(I)V"⟩ prog_3_method_10_code 3 none ∈ og_tbl := og_mc3 149 rfl rfl
theorem og_w630 : Cond.methodLink "OpenGraves$Grammar" 29 ⟨"OpenGraves$Tokens", "word", "()I"⟩ ∈ og_tbl := og_mc3 150 rfl rfl
theorem og_w631 : Cond.methodLink "OpenGraves$Grammar" 103 ⟨"OpenGraves$Tokens", "isNumber", "()Z"⟩ ∈ og_tbl := og_mc3 151 rfl rfl
theorem og_w632 : Cond.instanceMethod ⟨"OpenGraves$Tokens", "isNumber", "()Z"⟩ ∈ og_tbl := og_mc3 152 rfl rfl
theorem og_w633 : Cond.selects "OpenGraves$Tokens" ⟨"OpenGraves$Tokens", "isNumber", "()Z"⟩ ⟨"OpenGraves$Tokens", "isNumber", "()Z"⟩ ∈ og_tbl := og_mc3 153 rfl rfl
theorem og_w634 : Cond.code ⟨"OpenGraves$Tokens", "isNumber", "()Z"⟩ prog_11_method_13_code 1 (some .boolean) ∈ og_tbl := og_mc3 154 rfl rfl
theorem og_w635 : Cond.methodLink "OpenGraves$Grammar" 106 ⟨"OpenGraves$Tokens", "takeNumber", "(II)I"⟩ ∈ og_tbl := og_mc3 155 rfl rfl
theorem og_w636 : Cond.methodLink "OpenGraves$Grammar" 110 ⟨"OpenGraves$Grammar", "pair", "(II)V"⟩ ∈ og_tbl := og_mc3 156 rfl rfl
theorem og_w638 : Cond.instanceMethod ⟨"OpenGraves$Grammar", "pair", "(II)V"⟩ ∈ og_tbl := og_mc3 158 rfl rfl
theorem og_w639 : Cond.code ⟨"OpenGraves$Grammar", "pair", "(II)V"⟩ prog_3_method_11_code 3 none ∈ og_tbl := og_mc3 159 rfl rfl
theorem og_w640 : Cond.methodLink "OpenGraves$Grammar" 114 ⟨"OpenGraves$Grammar", "isKnown", "(I)Z"⟩ ∈ og_tbl := og_mc3 160 rfl rfl
theorem og_w642 : Cond.instanceMethod ⟨"OpenGraves$Grammar", "isKnown", "(I)Z"⟩ ∈ og_tbl := og_mc3 162 rfl rfl
theorem og_w643 : Cond.code ⟨"OpenGraves$Grammar", "isKnown", "(I)Z"⟩ prog_3_method_13_code 2 (some .boolean) ∈ og_tbl := og_mc3 163 rfl rfl
theorem og_w644 : Cond.methodLink "OpenGraves$Grammar" 63 ⟨"OpenGraves$Script", "finish", "(I)V"⟩ ∈ og_tbl := og_mc3 164 rfl rfl
theorem og_w645 : Cond.instanceMethod ⟨"OpenGraves$Script", "finish", "(I)V"⟩ ∈ og_tbl := og_mc3 165 rfl rfl
theorem og_w646 : Cond.selects "OpenGraves$Script" ⟨"OpenGraves$Script", "finish", "(I)V"⟩ ⟨"OpenGraves$Script", "finish", "(I)V"⟩ ∈ og_tbl := og_mc3 166 rfl rfl
theorem og_w647 : Cond.code ⟨"OpenGraves$Script", "finish", "(I)V"⟩ prog_9_method_5_code 2 none ∈ og_tbl := og_mc3 167 rfl rfl
theorem og_w648 : Cond.methodLink "OpenGraves$Parish" 46 ⟨"OpenGraves$Tokens", "takeSign", "(I)V"⟩ ∈ og_tbl := og_mc3 168 rfl rfl
theorem og_w649 : Cond.methodLink "OpenGraves$Parish" 50 ⟨"OpenGraves$Parish", "addMissingRules", "()V"⟩ ∈ og_tbl := og_mc3 169 rfl rfl
theorem og_w651 : Cond.instanceMethod ⟨"OpenGraves$Parish", "addMissingRules", "()V"⟩ ∈ og_tbl := og_mc3 171 rfl rfl
theorem og_w652 : Cond.code ⟨"OpenGraves$Parish", "addMissingRules", "()V"⟩ prog_5_method_10_code 2 none ∈ og_tbl := og_mc3 172 rfl rfl
theorem og_w653 : Cond.methodLink "OpenGraves$Parish" 146 ⟨"OpenGraves$Script", "begin", "(I)V"⟩ ∈ og_tbl := og_mc3 173 rfl rfl
theorem og_w654 : Cond.methodLink "OpenGraves$Parish" 148 ⟨"OpenGraves$Parish", "addUsualRule", "(I)V"⟩ ∈ og_tbl := og_mc3 174 rfl rfl
theorem og_w656 : Cond.instanceMethod ⟨"OpenGraves$Parish", "addUsualRule", "(I)V"⟩ ∈ og_tbl := og_mc3 176 rfl rfl
theorem og_w657 : Cond.code ⟨"OpenGraves$Parish", "addUsualRule", "(I)V"⟩ prog_5_method_11_code 2 none ∈ og_tbl := og_mc3 177 rfl rfl
theorem og_w658 : Cond.methodLink "OpenGraves$Parish" 154 ⟨"OpenGraves$Parish", "addJoined", "(III)V"⟩ ∈ og_tbl := og_mc3 178 rfl rfl
theorem og_w660 : Cond.instanceMethod ⟨"OpenGraves$Parish", "addJoined", "(III)V"⟩ ∈ og_tbl := og_mc3 180 rfl rfl
theorem og_w661 : Cond.code ⟨"OpenGraves$Parish", "addJoined", "(III)V"⟩ prog_5_method_12_code 4 none ∈ og_tbl := og_mc3 181 rfl rfl
theorem og_w662 : Cond.methodLink "OpenGraves$Parish" 161 ⟨"OpenGraves$Script", "addNumber", "(I)V"⟩ ∈ og_tbl := og_mc3 182 rfl rfl
theorem og_w663 : Cond.methodLink "OpenGraves$Parish" 158 ⟨"OpenGraves$Script", "addDeed", "(I)V"⟩ ∈ og_tbl := og_mc3 183 rfl rfl
theorem og_w664 : Cond.methodLink "OpenGraves$Parish" 151 ⟨"OpenGraves$Script", "finish", "(I)V"⟩ ∈ og_tbl := og_mc3 184 rfl rfl
theorem og_w665 : Cond.methodLink "OpenGraves" 123 ⟨"OpenGraves", "keepFault", "()V"⟩ ∈ og_tbl := og_mc3 185 rfl rfl
theorem og_w667 : Cond.instanceMethod ⟨"OpenGraves", "keepFault", "()V"⟩ ∈ og_tbl := og_mc3 187 rfl rfl
theorem og_w668 : Cond.code ⟨"OpenGraves", "keepFault", "()V"⟩ prog_1_method_36_code 1 none ∈ og_tbl := og_mc3 188 rfl rfl
theorem og_w669 : Cond.methodLink "OpenGraves" 129 ⟨"OpenGraves$Yard", "become", "(LOpenGraves$Yard;)V"⟩ ∈ og_tbl := og_mc3 189 rfl rfl
theorem og_w670 : Cond.instanceMethod ⟨"OpenGraves$Yard", "become", "(LOpenGraves$Yard;)V"⟩ ∈ og_tbl := og_mc3 190 rfl rfl
theorem og_w671 : Cond.selects "OpenGraves$Yard" ⟨"OpenGraves$Yard", "become", "(LOpenGraves$Yard;)V"⟩ ⟨"OpenGraves$Yard", "become", "(LOpenGraves$Yard;)V"⟩ ∈ og_tbl := og_mc3 191 rfl rfl
theorem og_w672 : Cond.code ⟨"OpenGraves$Yard", "become", "(LOpenGraves$Yard;)V"⟩ prog_12_method_3_code 2 none ∈ og_tbl := og_mc3 192 rfl rfl
theorem og_w673 : Cond.methodLink "OpenGraves$Yard" 52 ⟨"java/lang/System", "arraycopy", "(Ljava/lang/Object;ILjava/lang/Object;II)V"⟩ ∈ og_tbl := og_mc3 193 rfl rfl
theorem og_w674 : Cond.static ⟨"java/lang/System", "arraycopy", "(Ljava/lang/Object;ILjava/lang/Object;II)V"⟩ ∈ og_tbl := og_mc3 194 rfl rfl
theorem og_w675 : Cond.native ⟨"java/lang/System", "arraycopy", "(Ljava/lang/Object;ILjava/lang/Object;II)V"⟩ ∈ og_tbl := og_mc3 195 rfl rfl
theorem og_w676 : Cond.methodLink "OpenGraves" 133 ⟨"OpenGraves$Past", "forget", "()V"⟩ ∈ og_tbl := og_mc3 196 rfl rfl
theorem og_w677 : Cond.instanceMethod ⟨"OpenGraves$Past", "forget", "()V"⟩ ∈ og_tbl := og_mc3 197 rfl rfl
theorem og_w678 : Cond.selects "OpenGraves$Past" ⟨"OpenGraves$Past", "forget", "()V"⟩ ⟨"OpenGraves$Past", "forget", "()V"⟩ ∈ og_tbl := og_mc3 198 rfl rfl
theorem og_w679 : Cond.code ⟨"OpenGraves$Past", "forget", "()V"⟩ prog_6_method_2_code 1 none ∈ og_tbl := og_mc3 199 rfl rfl
set_option maxRecDepth 8000 in
theorem og_w681 : Cond.instanceMethod ⟨"OpenGraves", "fault", "(I)I"⟩ ∈ og_tbl := og_mc3 201 rfl rfl
set_option maxRecDepth 8000 in
theorem og_w682 : Cond.selects "OpenGraves" ⟨"OpenGraves", "fault", "(I)I"⟩ ⟨"OpenGraves", "fault", "(I)I"⟩ ∈ og_tbl := og_mc3 202 rfl rfl
set_option maxRecDepth 8000 in
theorem og_w683 : Cond.code ⟨"OpenGraves", "fault", "(I)I"⟩ prog_1_method_5_code 2 (some .int) ∈ og_tbl := og_mc3 203 rfl rfl
set_option maxRecDepth 8000 in
theorem og_w685 : Cond.instanceMethod ⟨"OpenGraves", "has", "(I)I"⟩ ∈ og_tbl := og_mc3 205 rfl rfl
set_option maxRecDepth 8000 in
theorem og_w686 : Cond.selects "OpenGraves" ⟨"OpenGraves", "has", "(I)I"⟩ ⟨"OpenGraves", "has", "(I)I"⟩ ∈ og_tbl := og_mc3 206 rfl rfl
set_option maxRecDepth 8000 in
theorem og_w687 : Cond.code ⟨"OpenGraves", "has", "(I)I"⟩ prog_1_method_6_code 2 (some .int) ∈ og_tbl := og_mc3 207 rfl rfl
set_option maxRecDepth 8000 in
theorem og_w688 : Cond.methodLink "OpenGraves" 151 ⟨"OpenGraves$Yard", "countAlive", "()I"⟩ ∈ og_tbl := og_mc3 208 rfl rfl
set_option maxRecDepth 8000 in
theorem og_w689 : Cond.instanceMethod ⟨"OpenGraves$Yard", "countAlive", "()I"⟩ ∈ og_tbl := og_mc3 209 rfl rfl
set_option maxRecDepth 8000 in
theorem og_w690 : Cond.selects "OpenGraves$Yard" ⟨"OpenGraves$Yard", "countAlive", "()I"⟩ ⟨"OpenGraves$Yard", "countAlive", "()I"⟩ ∈ og_tbl := og_mc3 210 rfl rfl
set_option maxRecDepth 8000 in
theorem og_w691 : Cond.code ⟨"OpenGraves$Yard", "countAlive", "()I"⟩ prog_12_method_11_code 3 (some .int) ∈ og_tbl := og_mc3 211 rfl rfl
set_option maxRecDepth 8000 in
theorem og_w692 : Cond.methodLink "OpenGraves" 155 ⟨"OpenGraves$Yard", "countAsking", "()I"⟩ ∈ og_tbl := og_mc3 212 rfl rfl
set_option maxRecDepth 8000 in
theorem og_w693 : Cond.instanceMethod ⟨"OpenGraves$Yard", "countAsking", "()I"⟩ ∈ og_tbl := og_mc3 213 rfl rfl
set_option maxRecDepth 8000 in
theorem og_w694 : Cond.selects "OpenGraves$Yard" ⟨"OpenGraves$Yard", "countAsking", "()I"⟩ ⟨"OpenGraves$Yard", "countAsking", "()I"⟩ ∈ og_tbl := og_mc3 214 rfl rfl
set_option maxRecDepth 8000 in
theorem og_w695 : Cond.code ⟨"OpenGraves$Yard", "countAsking", "()I"⟩ prog_12_method_12_code 3 (some .int) ∈ og_tbl := og_mc3 215 rfl rfl
set_option maxRecDepth 8000 in
theorem og_w696 : Cond.methodLink "OpenGraves$Yard" 62 ⟨"OpenGraves$Yard", "asks", "(I)Z"⟩ ∈ og_tbl := og_mc3 216 rfl rfl
set_option maxRecDepth 8000 in
theorem og_w697 : Cond.instanceMethod ⟨"OpenGraves$Yard", "asks", "(I)Z"⟩ ∈ og_tbl := og_mc3 217 rfl rfl
set_option maxRecDepth 8000 in
theorem og_w698 : Cond.selects "OpenGraves$Yard" ⟨"OpenGraves$Yard", "asks", "(I)Z"⟩ ⟨"OpenGraves$Yard", "asks", "(I)Z"⟩ ∈ og_tbl := og_mc3 218 rfl rfl
set_option maxRecDepth 8000 in
theorem og_w699 : Cond.code ⟨"OpenGraves$Yard", "asks", "(I)Z"⟩ prog_12_method_8_code 2 (some .boolean) ∈ og_tbl := og_mc3 219 rfl rfl
set_option maxRecDepth 8000 in
theorem og_w700 : Cond.methodLink "OpenGraves" 158 ⟨"OpenGraves$Yard", "countFilled", "()I"⟩ ∈ og_tbl := og_mc3 220 rfl rfl
set_option maxRecDepth 8000 in
theorem og_w701 : Cond.instanceMethod ⟨"OpenGraves$Yard", "countFilled", "()I"⟩ ∈ og_tbl := og_mc3 221 rfl rfl
set_option maxRecDepth 8000 in
theorem og_w702 : Cond.selects "OpenGraves$Yard" ⟨"OpenGraves$Yard", "countFilled", "()I"⟩ ⟨"OpenGraves$Yard", "countFilled", "()I"⟩ ∈ og_tbl := og_mc3 222 rfl rfl
set_option maxRecDepth 8000 in
theorem og_w703 : Cond.code ⟨"OpenGraves$Yard", "countFilled", "()I"⟩ prog_12_method_13_code 3 (some .int) ∈ og_tbl := og_mc3 223 rfl rfl
set_option maxRecDepth 8000 in
theorem og_w704 : Cond.methodLink "OpenGraves$Yard" 65 ⟨"OpenGraves$Yard", "isFilled", "(I)Z"⟩ ∈ og_tbl := og_mc3 224 rfl rfl
set_option maxRecDepth 8000 in
theorem og_w705 : Cond.instanceMethod ⟨"OpenGraves$Yard", "isFilled", "(I)Z"⟩ ∈ og_tbl := og_mc3 225 rfl rfl
set_option maxRecDepth 8000 in
theorem og_w706 : Cond.selects "OpenGraves$Yard" ⟨"OpenGraves$Yard", "isFilled", "(I)Z"⟩ ⟨"OpenGraves$Yard", "isFilled", "(I)Z"⟩ ∈ og_tbl := og_mc3 226 rfl rfl
set_option maxRecDepth 8000 in
theorem og_w707 : Cond.code ⟨"OpenGraves$Yard", "isFilled", "(I)Z"⟩ prog_12_method_7_code 2 (some .boolean) ∈ og_tbl := og_mc3 227 rfl rfl
set_option maxRecDepth 8000 in
theorem og_w709 : Cond.instanceMethod ⟨"OpenGraves", "letter", "(III)I"⟩ ∈ og_tbl := og_mc3 229 rfl rfl
set_option maxRecDepth 8000 in
theorem og_w710 : Cond.selects "OpenGraves" ⟨"OpenGraves", "letter", "(III)I"⟩ ⟨"OpenGraves", "letter", "(III)I"⟩ ∈ og_tbl := og_mc3 230 rfl rfl
set_option maxRecDepth 8000 in
theorem og_w711 : Cond.code ⟨"OpenGraves", "letter", "(III)I"⟩ prog_1_method_7_code 4 (some .int) ∈ og_tbl := og_mc3 231 rfl rfl
set_option maxRecDepth 8000 in
theorem og_w712 : Cond.methodLink "OpenGraves" 167 ⟨"OpenGraves$Yard", "isGrave", "(I)Z"⟩ ∈ og_tbl := og_mc3 232 rfl rfl
set_option maxRecDepth 8000 in
theorem og_w713 : Cond.instanceMethod ⟨"OpenGraves$Yard", "isGrave", "(I)Z"⟩ ∈ og_tbl := og_mc3 233 rfl rfl
set_option maxRecDepth 8000 in
theorem og_w714 : Cond.selects "OpenGraves$Yard" ⟨"OpenGraves$Yard", "isGrave", "(I)Z"⟩ ⟨"OpenGraves$Yard", "isGrave", "(I)Z"⟩ ∈ og_tbl := og_mc3 234 rfl rfl
set_option maxRecDepth 8000 in
theorem og_w715 : Cond.code ⟨"OpenGraves$Yard", "isGrave", "(I)Z"⟩ prog_12_method_4_code 2 (some .boolean) ∈ og_tbl := og_mc3 235 rfl rfl
set_option maxRecDepth 8000 in
theorem og_w716 : Cond.methodLink "OpenGraves" 171 ⟨"OpenGraves$Parish", "letterOf", "(II)I"⟩ ∈ og_tbl := og_mc3 236 rfl rfl
set_option maxRecDepth 8000 in
theorem og_w717 : Cond.instanceMethod ⟨"OpenGraves$Parish", "letterOf", "(II)I"⟩ ∈ og_tbl := og_mc3 237 rfl rfl
set_option maxRecDepth 8000 in
theorem og_w718 : Cond.selects "OpenGraves$Parish" ⟨"OpenGraves$Parish", "letterOf", "(II)I"⟩ ⟨"OpenGraves$Parish", "letterOf", "(II)I"⟩ ∈ og_tbl := og_mc3 238 rfl rfl
set_option maxRecDepth 8000 in
theorem og_w719 : Cond.code ⟨"OpenGraves$Parish", "letterOf", "(II)I"⟩ prog_5_method_2_code 5 (some .int) ∈ og_tbl := og_mc3 239 rfl rfl
theorem og_w720 : Cond.methodLink "OpenGraves" 175 ⟨"OpenGraves$Yard", "isPerson", "(I)Z"⟩ ∈ og_tbl := og_mc4 0 rfl rfl
theorem og_w721 : Cond.instanceMethod ⟨"OpenGraves$Yard", "isPerson", "(I)Z"⟩ ∈ og_tbl := og_mc4 1 rfl rfl
theorem og_w722 : Cond.selects "OpenGraves$Yard" ⟨"OpenGraves$Yard", "isPerson", "(I)Z"⟩ ⟨"OpenGraves$Yard", "isPerson", "(I)Z"⟩ ∈ og_tbl := og_mc4 2 rfl rfl
theorem og_w723 : Cond.code ⟨"OpenGraves$Yard", "isPerson", "(I)Z"⟩ prog_12_method_5_code 2 (some .boolean) ∈ og_tbl := og_mc4 3 rfl rfl
theorem og_w725 : Cond.instanceMethod ⟨"OpenGraves", "grave", "(II)I"⟩ ∈ og_tbl := og_mc4 5 rfl rfl
theorem og_w726 : Cond.selects "OpenGraves" ⟨"OpenGraves", "grave", "(II)I"⟩ ⟨"OpenGraves", "grave", "(II)I"⟩ ∈ og_tbl := og_mc4 6 rfl rfl
theorem og_w727 : Cond.code ⟨"OpenGraves", "grave", "(II)I"⟩ prog_1_method_8_code 3 (some .int) ∈ og_tbl := og_mc4 7 rfl rfl
theorem og_w728 : Cond.methodLink "OpenGraves" 190 ⟨"OpenGraves$Yard", "asks", "(I)Z"⟩ ∈ og_tbl := og_mc4 8 rfl rfl
theorem og_w730 : Cond.instanceMethod ⟨"OpenGraves", "person", "(II)I"⟩ ∈ og_tbl := og_mc4 10 rfl rfl
theorem og_w731 : Cond.selects "OpenGraves" ⟨"OpenGraves", "person", "(II)I"⟩ ⟨"OpenGraves", "person", "(II)I"⟩ ∈ og_tbl := og_mc4 11 rfl rfl
theorem og_w732 : Cond.code ⟨"OpenGraves", "person", "(II)I"⟩ prog_1_method_9_code 3 (some .int) ∈ og_tbl := og_mc4 12 rfl rfl
theorem og_w734 : Cond.instanceMethod ⟨"OpenGraves", "counts", "(II)J"⟩ ∈ og_tbl := og_mc4 14 rfl rfl
theorem og_w735 : Cond.selects "OpenGraves" ⟨"OpenGraves", "counts", "(II)J"⟩ ⟨"OpenGraves", "counts", "(II)J"⟩ ∈ og_tbl := og_mc4 15 rfl rfl
theorem og_w736 : Cond.code ⟨"OpenGraves", "counts", "(II)J"⟩ prog_1_method_10_code 3 (some .long) ∈ og_tbl := og_mc4 16 rfl rfl
theorem og_w737 : Cond.constantLong "OpenGraves" 205 (-1000000000000000 : Int64) ∈ og_tbl := og_mc4 17 rfl rfl
theorem og_w738 : Cond.methodLink "OpenGraves" 207 ⟨"OpenGraves", "dyingOf", "(I)I"⟩ ∈ og_tbl := og_mc4 18 rfl rfl
theorem og_w740 : Cond.instanceMethod ⟨"OpenGraves", "dyingOf", "(I)I"⟩ ∈ og_tbl := og_mc4 20 rfl rfl
theorem og_w741 : Cond.code ⟨"OpenGraves", "dyingOf", "(I)I"⟩ prog_1_method_38_code 2 (some .int) ∈ og_tbl := og_mc4 21 rfl rfl
theorem og_w742 : Cond.methodLink "OpenGraves" 210 ⟨"OpenGraves$Reckoner", "value", "(LOpenGraves$Script;ILOpenGraves$Yard;II)I"⟩ ∈ og_tbl := og_mc4 22 rfl rfl
theorem og_w743 : Cond.instanceMethod ⟨"OpenGraves$Reckoner", "value", "(LOpenGraves$Script;ILOpenGraves$Yard;II)I"⟩ ∈ og_tbl := og_mc4 23 rfl rfl
theorem og_w744 : Cond.selects "OpenGraves$Reckoner" ⟨"OpenGraves$Reckoner", "value", "(LOpenGraves$Script;ILOpenGraves$Yard;II)I"⟩ ⟨"OpenGraves$Reckoner", "value", "(LOpenGraves$Script;ILOpenGraves$Yard;II)I"⟩ ∈ og_tbl := og_mc4 24 rfl rfl
theorem og_w745 : Cond.code ⟨"OpenGraves$Reckoner", "value", "(LOpenGraves$Script;ILOpenGraves$Yard;II)I"⟩ prog_7_method_2_code 11 (some .int) ∈ og_tbl := og_mc4 25 rfl rfl
theorem og_w746 : Cond.methodLink "OpenGraves$Reckoner" 23 ⟨"java/lang/Math", "min", "(II)I"⟩ ∈ og_tbl := og_mc4 26 rfl rfl
theorem og_w747 : Cond.static ⟨"java/lang/Math", "min", "(II)I"⟩ ∈ og_tbl := og_mc4 27 rfl rfl
theorem og_w748 : Cond.code ⟨"java/lang/Math", "min", "(II)I"⟩ prog_16_method_69_code 2 (some .int) ∈ og_tbl := og_mc4 28 rfl rfl
theorem og_w749 : Cond.methodLink "OpenGraves$Reckoner" 32 ⟨"OpenGraves$Reckoner", "isPlain", "(I)Z"⟩ ∈ og_tbl := og_mc4 29 rfl rfl
theorem og_w750 : Cond.static ⟨"OpenGraves$Reckoner", "isPlain", "(I)Z"⟩ ∈ og_tbl := og_mc4 30 rfl rfl
theorem og_w751 : Cond.code ⟨"OpenGraves$Reckoner", "isPlain", "(I)Z"⟩ prog_7_method_3_code 1 (some .boolean) ∈ og_tbl := og_mc4 31 rfl rfl
theorem og_w752 : Cond.methodLink "OpenGraves$Reckoner" 36 ⟨"OpenGraves$Reckoner", "plain", "(ILOpenGraves$Yard;II)I"⟩ ∈ og_tbl := og_mc4 32 rfl rfl
theorem og_w753 : Cond.static ⟨"OpenGraves$Reckoner", "plain", "(ILOpenGraves$Yard;II)I"⟩ ∈ og_tbl := og_mc4 33 rfl rfl
theorem og_w754 : Cond.code ⟨"OpenGraves$Reckoner", "plain", "(ILOpenGraves$Yard;II)I"⟩ prog_7_method_4_code 4 (some .int) ∈ og_tbl := og_mc4 34 rfl rfl
theorem og_w755 : Cond.methodLink "OpenGraves$Reckoner" 40 ⟨"OpenGraves$Reckoner", "single", "(IILOpenGraves$Yard;I)I"⟩ ∈ og_tbl := og_mc4 35 rfl rfl
theorem og_w756 : Cond.static ⟨"OpenGraves$Reckoner", "single", "(IILOpenGraves$Yard;I)I"⟩ ∈ og_tbl := og_mc4 36 rfl rfl
theorem og_w757 : Cond.code ⟨"OpenGraves$Reckoner", "single", "(IILOpenGraves$Yard;I)I"⟩ prog_7_method_5_code 4 (some .int) ∈ og_tbl := og_mc4 37 rfl rfl
theorem og_w758 : Cond.constantLong "OpenGraves$Reckoner" 44 (-1000000 : Int64) ∈ og_tbl := og_mc4 38 rfl rfl
theorem og_w759 : Cond.constantLong "OpenGraves$Reckoner" 46 (1000000 : Int64) ∈ og_tbl := og_mc4 39 rfl rfl
theorem og_w760 : Cond.methodLink "OpenGraves$Reckoner" 48 ⟨"OpenGraves$Reckoner", "joint", "(III)J"⟩ ∈ og_tbl := og_mc4 40 rfl rfl
theorem og_w761 : Cond.static ⟨"OpenGraves$Reckoner", "joint", "(III)J"⟩ ∈ og_tbl := og_mc4 41 rfl rfl
theorem og_w762 : Cond.code ⟨"OpenGraves$Reckoner", "joint", "(III)J"⟩ prog_7_method_6_code 3 (some .long) ∈ og_tbl := og_mc4 42 rfl rfl
theorem og_w763 : Cond.methodLink "OpenGraves$Reckoner" 85 ⟨"java/lang/Math", "floorDiv", "(II)I"⟩ ∈ og_tbl := og_mc4 43 rfl rfl
theorem og_w764 : Cond.static ⟨"java/lang/Math", "floorDiv", "(II)I"⟩ ∈ og_tbl := og_mc4 44 rfl rfl
theorem og_w765 : Cond.code ⟨"java/lang/Math", "floorDiv", "(II)I"⟩ prog_16_method_47_code 3 (some .int) ∈ og_tbl := og_mc4 45 rfl rfl
theorem og_w766 : Cond.methodLink "OpenGraves$Reckoner" 88 ⟨"java/lang/Math", "max", "(II)I"⟩ ∈ og_tbl := og_mc4 46 rfl rfl
theorem og_w767 : Cond.static ⟨"java/lang/Math", "max", "(II)I"⟩ ∈ og_tbl := og_mc4 47 rfl rfl
theorem og_w768 : Cond.code ⟨"java/lang/Math", "max", "(II)I"⟩ prog_16_method_65_code 2 (some .int) ∈ og_tbl := og_mc4 48 rfl rfl
theorem og_w769 : Cond.methodLink "OpenGraves$Reckoner" 52 ⟨"java/lang/Math", "min", "(JJ)J"⟩ ∈ og_tbl := og_mc4 49 rfl rfl
theorem og_w770 : Cond.static ⟨"java/lang/Math", "min", "(JJ)J"⟩ ∈ og_tbl := og_mc4 50 rfl rfl
theorem og_w771 : Cond.code ⟨"java/lang/Math", "min", "(JJ)J"⟩ prog_16_method_70_code 4 (some .long) ∈ og_tbl := og_mc4 51 rfl rfl
theorem og_w772 : Cond.methodLink "OpenGraves$Reckoner" 55 ⟨"java/lang/Math", "max", "(JJ)J"⟩ ∈ og_tbl := og_mc4 52 rfl rfl
theorem og_w773 : Cond.static ⟨"java/lang/Math", "max", "(JJ)J"⟩ ∈ og_tbl := og_mc4 53 rfl rfl
theorem og_w774 : Cond.code ⟨"java/lang/Math", "max", "(JJ)J"⟩ prog_16_method_66_code 4 (some .long) ∈ og_tbl := og_mc4 54 rfl rfl
theorem og_w775 : Cond.methodLink "OpenGraves" 371 ⟨"OpenGraves", "cut", "(II)I"⟩ ∈ og_tbl := og_mc4 55 rfl rfl
theorem og_w776 : Cond.static ⟨"OpenGraves", "cut", "(II)I"⟩ ∈ og_tbl := og_mc4 56 rfl rfl
theorem og_w777 : Cond.code ⟨"OpenGraves", "cut", "(II)I"⟩ prog_1_method_37_code 2 (some .int) ∈ og_tbl := og_mc4 57 rfl rfl
theorem og_w778 : Cond.methodLink "OpenGraves" 363 ⟨"java/lang/Math", "min", "(II)I"⟩ ∈ og_tbl := og_mc4 58 rfl rfl
theorem og_w779 : Cond.methodLink "OpenGraves" 368 ⟨"java/lang/Math", "max", "(II)I"⟩ ∈ og_tbl := og_mc4 59 rfl rfl
theorem og_w780 : Cond.methodLink "OpenGraves" 214 ⟨"OpenGraves", "harmOf", "(I)I"⟩ ∈ og_tbl := og_mc4 60 rfl rfl
theorem og_w782 : Cond.instanceMethod ⟨"OpenGraves", "harmOf", "(I)I"⟩ ∈ og_tbl := og_mc4 62 rfl rfl
theorem og_w783 : Cond.code ⟨"OpenGraves", "harmOf", "(I)I"⟩ prog_1_method_39_code 2 (some .int) ∈ og_tbl := og_mc4 63 rfl rfl
theorem og_w785 : Cond.instanceMethod ⟨"OpenGraves", "next", "(I)I"⟩ ∈ og_tbl := og_mc4 65 rfl rfl
theorem og_w786 : Cond.selects "OpenGraves" ⟨"OpenGraves", "next", "(I)I"⟩ ⟨"OpenGraves", "next", "(I)I"⟩ ∈ og_tbl := og_mc4 66 rfl rfl
theorem og_w787 : Cond.code ⟨"OpenGraves", "next", "(I)I"⟩ prog_1_method_11_code 2 (some .int) ∈ og_tbl := og_mc4 67 rfl rfl
theorem og_w788 : Cond.methodLink "OpenGraves" 217 ⟨"OpenGraves$Yard", "lives", "(I)Z"⟩ ∈ og_tbl := og_mc4 68 rfl rfl
theorem og_w789 : Cond.instanceMethod ⟨"OpenGraves$Yard", "lives", "(I)Z"⟩ ∈ og_tbl := og_mc4 69 rfl rfl
theorem og_w790 : Cond.selects "OpenGraves$Yard" ⟨"OpenGraves$Yard", "lives", "(I)Z"⟩ ⟨"OpenGraves$Yard", "lives", "(I)Z"⟩ ∈ og_tbl := og_mc4 70 rfl rfl
theorem og_w791 : Cond.code ⟨"OpenGraves$Yard", "lives", "(I)Z"⟩ prog_12_method_6_code 2 (some .boolean) ∈ og_tbl := og_mc4 71 rfl rfl
theorem og_w792 : Cond.methodLink "OpenGraves$Yard" 58 ⟨"OpenGraves$Yard", "isPerson", "(I)Z"⟩ ∈ og_tbl := og_mc4 72 rfl rfl
theorem og_w793 : Cond.methodLink "OpenGraves" 220 ⟨"OpenGraves$Yard", "nextGrave", "(I)I"⟩ ∈ og_tbl := og_mc4 73 rfl rfl
theorem og_w794 : Cond.instanceMethod ⟨"OpenGraves$Yard", "nextGrave", "(I)I"⟩ ∈ og_tbl := og_mc4 74 rfl rfl
theorem og_w795 : Cond.selects "OpenGraves$Yard" ⟨"OpenGraves$Yard", "nextGrave", "(I)I"⟩ ⟨"OpenGraves$Yard", "nextGrave", "(I)I"⟩ ∈ og_tbl := og_mc4 75 rfl rfl
theorem og_w796 : Cond.code ⟨"OpenGraves$Yard", "nextGrave", "(I)I"⟩ prog_12_method_14_code 4 (some .int) ∈ og_tbl := og_mc4 76 rfl rfl
theorem og_w797 : Cond.methodLink "OpenGraves$Yard" 68 ⟨"OpenGraves$Yard", "fits", "(II)Z"⟩ ∈ og_tbl := og_mc4 77 rfl rfl
theorem og_w798 : Cond.instanceMethod ⟨"OpenGraves$Yard", "fits", "(II)Z"⟩ ∈ og_tbl := og_mc4 78 rfl rfl
theorem og_w799 : Cond.selects "OpenGraves$Yard" ⟨"OpenGraves$Yard", "fits", "(II)Z"⟩ ⟨"OpenGraves$Yard", "fits", "(II)Z"⟩ ∈ og_tbl := og_mc4 79 rfl rfl
theorem og_w800 : Cond.code ⟨"OpenGraves$Yard", "fits", "(II)Z"⟩ prog_12_method_9_code 3 (some .boolean) ∈ og_tbl := og_mc4 80 rfl rfl
theorem og_w802 : Cond.instanceMethod ⟨"OpenGraves", "kept", "(II)I"⟩ ∈ og_tbl := og_mc4 82 rfl rfl
theorem og_w803 : Cond.selects "OpenGraves" ⟨"OpenGraves", "kept", "(II)I"⟩ ⟨"OpenGraves", "kept", "(II)I"⟩ ∈ og_tbl := og_mc4 83 rfl rfl
theorem og_w804 : Cond.code ⟨"OpenGraves", "kept", "(II)I"⟩ prog_1_method_12_code 3 (some .int) ∈ og_tbl := og_mc4 84 rfl rfl
theorem og_w805 : Cond.methodLink "OpenGraves" 223 ⟨"OpenGraves$Yard", "keptCell", "(II)I"⟩ ∈ og_tbl := og_mc4 85 rfl rfl
theorem og_w806 : Cond.instanceMethod ⟨"OpenGraves$Yard", "keptCell", "(II)I"⟩ ∈ og_tbl := og_mc4 86 rfl rfl
theorem og_w807 : Cond.selects "OpenGraves$Yard" ⟨"OpenGraves$Yard", "keptCell", "(II)I"⟩ ⟨"OpenGraves$Yard", "keptCell", "(II)I"⟩ ∈ og_tbl := og_mc4 87 rfl rfl
theorem og_w808 : Cond.code ⟨"OpenGraves$Yard", "keptCell", "(II)I"⟩ prog_12_method_16_code 4 (some .int) ∈ og_tbl := og_mc4 88 rfl rfl
theorem og_w810 : Cond.instanceMethod ⟨"OpenGraves", "later", "(II)I"⟩ ∈ og_tbl := og_mc4 90 rfl rfl
theorem og_w811 : Cond.selects "OpenGraves" ⟨"OpenGraves", "later", "(II)I"⟩ ⟨"OpenGraves", "later", "(II)I"⟩ ∈ og_tbl := og_mc4 91 rfl rfl
theorem og_w812 : Cond.code ⟨"OpenGraves", "later", "(II)I"⟩ prog_1_method_13_code 3 (some .int) ∈ og_tbl := og_mc4 92 rfl rfl
theorem og_w813 : Cond.methodLink "OpenGraves" 226 ⟨"OpenGraves", "comesAhead", "(I)Z"⟩ ∈ og_tbl := og_mc4 93 rfl rfl
theorem og_w815 : Cond.instanceMethod ⟨"OpenGraves", "comesAhead", "(I)Z"⟩ ∈ og_tbl := og_mc4 95 rfl rfl
theorem og_w816 : Cond.code ⟨"OpenGraves", "comesAhead", "(I)Z"⟩ prog_1_method_40_code 2 (some .boolean) ∈ og_tbl := og_mc4 96 rfl rfl
theorem og_w817 : Cond.methodLink "OpenGraves" 229 ⟨"OpenGraves$Outlook", "takenIn", "(LOpenGraves$Script;LOpenGraves$Yard;I)I"⟩ ∈ og_tbl := og_mc4 97 rfl rfl
theorem og_w818 : Cond.instanceMethod ⟨"OpenGraves$Outlook", "takenIn", "(LOpenGraves$Script;LOpenGraves$Yard;I)I"⟩ ∈ og_tbl := og_mc4 98 rfl rfl
theorem og_w819 : Cond.selects "OpenGraves$Outlook" ⟨"OpenGraves$Outlook", "takenIn", "(LOpenGraves$Script;LOpenGraves$Yard;I)I"⟩ ⟨"OpenGraves$Outlook", "takenIn", "(LOpenGraves$Script;LOpenGraves$Yard;I)I"⟩ ∈ og_tbl := og_mc4 99 rfl rfl
theorem og_w820 : Cond.code ⟨"OpenGraves$Outlook", "takenIn", "(LOpenGraves$Script;LOpenGraves$Yard;I)I"⟩ prog_4_method_2_code 4 (some .int) ∈ og_tbl := og_mc4 100 rfl rfl
theorem og_w821 : Cond.methodLink "OpenGraves$Outlook" 42 ⟨"OpenGraves$Yard", "become", "(LOpenGraves$Yard;)V"⟩ ∈ og_tbl := og_mc4 101 rfl rfl
theorem og_w822 : Cond.methodLink "OpenGraves$Outlook" 46 ⟨"OpenGraves$Outlook", "takenBehind", "(LOpenGraves$Script;I)I"⟩ ∈ og_tbl := og_mc4 102 rfl rfl
theorem og_w824 : Cond.instanceMethod ⟨"OpenGraves$Outlook", "takenBehind", "(LOpenGraves$Script;I)I"⟩ ∈ og_tbl := og_mc4 104 rfl rfl
theorem og_w825 : Cond.code ⟨"OpenGraves$Outlook", "takenBehind", "(LOpenGraves$Script;I)I"⟩ prog_4_method_3_code 5 (some .int) ∈ og_tbl := og_mc4 105 rfl rfl
theorem og_w826 : Cond.methodLink "OpenGraves$Outlook" 50 ⟨"OpenGraves$Yard", "countAsking", "()I"⟩ ∈ og_tbl := og_mc4 106 rfl rfl
theorem og_w827 : Cond.methodLink "OpenGraves$Outlook" 54 ⟨"OpenGraves$Almanac", "pass", "(LOpenGraves$Script;LOpenGraves$Yard;)I"⟩ ∈ og_tbl := og_mc4 107 rfl rfl
theorem og_w828 : Cond.instanceMethod ⟨"OpenGraves$Almanac", "pass", "(LOpenGraves$Script;LOpenGraves$Yard;)I"⟩ ∈ og_tbl := og_mc4 108 rfl rfl
theorem og_w829 : Cond.selects "OpenGraves$Almanac" ⟨"OpenGraves$Almanac", "pass", "(LOpenGraves$Script;LOpenGraves$Yard;)I"⟩ ⟨"OpenGraves$Almanac", "pass", "(LOpenGraves$Script;LOpenGraves$Yard;)I"⟩ ∈ og_tbl := og_mc4 109 rfl rfl
theorem og_w830 : Cond.code ⟨"OpenGraves$Almanac", "pass", "(LOpenGraves$Script;LOpenGraves$Yard;)I"⟩ prog_2_method_2_code 4 (some .int) ∈ og_tbl := og_mc4 110 rfl rfl
theorem og_w831 : Cond.methodLink "OpenGraves$Almanac" 19 ⟨"OpenGraves$Almanac", "comeForward", "(LOpenGraves$Script;LOpenGraves$Yard;)V"⟩ ∈ og_tbl := og_mc4 111 rfl rfl
theorem og_w833 : Cond.instanceMethod ⟨"OpenGraves$Almanac", "comeForward", "(LOpenGraves$Script;LOpenGraves$Yard;)V"⟩ ∈ og_tbl := og_mc4 113 rfl rfl
theorem og_w834 : Cond.code ⟨"OpenGraves$Almanac", "comeForward", "(LOpenGraves$Script;LOpenGraves$Yard;)V"⟩ prog_2_method_3_code 5 none ∈ og_tbl := og_mc4 114 rfl rfl
theorem og_w835 : Cond.methodLink "OpenGraves$Almanac" 57 ⟨"OpenGraves$Yard", "lives", "(I)Z"⟩ ∈ og_tbl := og_mc4 115 rfl rfl
theorem og_w836 : Cond.methodLink "OpenGraves$Almanac" 61 ⟨"OpenGraves$Yard", "countAsking", "()I"⟩ ∈ og_tbl := og_mc4 116 rfl rfl
theorem og_w837 : Cond.methodLink "OpenGraves$Almanac" 65 ⟨"OpenGraves$Reckoner", "value", "(LOpenGraves$Script;ILOpenGraves$Yard;II)I"⟩ ∈ og_tbl := og_mc4 117 rfl rfl
theorem og_w838 : Cond.methodLink "OpenGraves$Almanac" 71 ⟨"OpenGraves$Yard", "nextGrave", "(I)I"⟩ ∈ og_tbl := og_mc4 118 rfl rfl
theorem og_w839 : Cond.methodLink "OpenGraves$Almanac" 75 ⟨"OpenGraves$Yard", "bury", "(III)V"⟩ ∈ og_tbl := og_mc4 119 rfl rfl
theorem og_w840 : Cond.instanceMethod ⟨"OpenGraves$Yard", "bury", "(III)V"⟩ ∈ og_tbl := og_mc4 120 rfl rfl
theorem og_w841 : Cond.selects "OpenGraves$Yard" ⟨"OpenGraves$Yard", "bury", "(III)V"⟩ ⟨"OpenGraves$Yard", "bury", "(III)V"⟩ ∈ og_tbl := og_mc4 121 rfl rfl
theorem og_w842 : Cond.code ⟨"OpenGraves$Yard", "bury", "(III)V"⟩ prog_12_method_15_code 5 none ∈ og_tbl := og_mc4 122 rfl rfl
theorem og_w843 : Cond.methodLink "OpenGraves$Yard" 72 ⟨"OpenGraves$Yard", "isGrave", "(I)Z"⟩ ∈ og_tbl := og_mc4 123 rfl rfl
theorem og_w844 : Cond.methodLink "OpenGraves$Almanac" 23 ⟨"OpenGraves$Almanac", "comeNearer", "(LOpenGraves$Yard;)Z"⟩ ∈ og_tbl := og_mc4 124 rfl rfl
theorem og_w845 : Cond.static ⟨"OpenGraves$Almanac", "comeNearer", "(LOpenGraves$Yard;)Z"⟩ ∈ og_tbl := og_mc4 125 rfl rfl
theorem og_w846 : Cond.code ⟨"OpenGraves$Almanac", "comeNearer", "(LOpenGraves$Yard;)Z"⟩ prog_2_method_4_code 3 (some .boolean) ∈ og_tbl := og_mc4 126 rfl rfl
theorem og_w847 : Cond.methodLink "OpenGraves$Almanac" 82 ⟨"OpenGraves$Yard", "asks", "(I)Z"⟩ ∈ og_tbl := og_mc4 127 rfl rfl
theorem og_w848 : Cond.methodLink "OpenGraves$Almanac" 88 ⟨"java/lang/Math", "max", "(II)I"⟩ ∈ og_tbl := og_mc4 128 rfl rfl
theorem og_w849 : Cond.methodLink "OpenGraves$Almanac" 27 ⟨"OpenGraves$Almanac", "weigh", "(LOpenGraves$Script;LOpenGraves$Yard;)V"⟩ ∈ og_tbl := og_mc4 129 rfl rfl
theorem og_w851 : Cond.instanceMethod ⟨"OpenGraves$Almanac", "weigh", "(LOpenGraves$Script;LOpenGraves$Yard;)V"⟩ ∈ og_tbl := og_mc4 131 rfl rfl
theorem og_w852 : Cond.code ⟨"OpenGraves$Almanac", "weigh", "(LOpenGraves$Script;LOpenGraves$Yard;)V"⟩ prog_2_method_6_code 4 none ∈ og_tbl := og_mc4 132 rfl rfl
theorem og_w853 : Cond.methodLink "OpenGraves$Almanac" 30 ⟨"OpenGraves$Almanac", "takeDue", "(LOpenGraves$Yard;)I"⟩ ∈ og_tbl := og_mc4 133 rfl rfl
theorem og_w855 : Cond.instanceMethod ⟨"OpenGraves$Almanac", "takeDue", "(LOpenGraves$Yard;)I"⟩ ∈ og_tbl := og_mc4 135 rfl rfl
theorem og_w856 : Cond.code ⟨"OpenGraves$Almanac", "takeDue", "(LOpenGraves$Yard;)I"⟩ prog_2_method_5_code 5 (some .int) ∈ og_tbl := og_mc4 136 rfl rfl
theorem og_w857 : Cond.methodLink "OpenGraves$Almanac" 91 ⟨"OpenGraves$Almanac", "heaviest", "(LOpenGraves$Yard;I)I"⟩ ∈ og_tbl := og_mc4 137 rfl rfl
theorem og_w859 : Cond.instanceMethod ⟨"OpenGraves$Almanac", "heaviest", "(LOpenGraves$Yard;I)I"⟩ ∈ og_tbl := og_mc4 139 rfl rfl
theorem og_w860 : Cond.code ⟨"OpenGraves$Almanac", "heaviest", "(LOpenGraves$Yard;I)I"⟩ prog_2_method_7_code 5 (some .int) ∈ og_tbl := og_mc4 140 rfl rfl
theorem og_w861 : Cond.methodLink "OpenGraves$Almanac" 95 ⟨"OpenGraves$Yard", "fits", "(II)Z"⟩ ∈ og_tbl := og_mc4 141 rfl rfl
theorem og_w862 : Cond.methodLink "OpenGraves$Almanac" 34 ⟨"OpenGraves$Almanac", "changeHearts", "(LOpenGraves$Script;LOpenGraves$Yard;I)V"⟩ ∈ og_tbl := og_mc4 142 rfl rfl
theorem og_w864 : Cond.instanceMethod ⟨"OpenGraves$Almanac", "changeHearts", "(LOpenGraves$Script;LOpenGraves$Yard;I)V"⟩ ∈ og_tbl := og_mc4 144 rfl rfl
theorem og_w865 : Cond.code ⟨"OpenGraves$Almanac", "changeHearts", "(LOpenGraves$Script;LOpenGraves$Yard;I)V"⟩ prog_2_method_8_code 5 none ∈ og_tbl := og_mc4 145 rfl rfl
theorem og_w866 : Cond.methodLinkNest "OpenGraves$Almanac" 102 ⟨"OpenGraves", "cut", "(II)I"⟩ "OpenGraves" ∈ og_nest := og_nc4 146 rfl rfl
theorem og_w867 : Cond.methodLink "OpenGraves$Almanac" 44 ⟨"OpenGraves$Almanac", "growOlder", "(LOpenGraves$Yard;)V"⟩ ∈ og_tbl := og_mc4 147 rfl rfl
theorem og_w868 : Cond.static ⟨"OpenGraves$Almanac", "growOlder", "(LOpenGraves$Yard;)V"⟩ ∈ og_tbl := og_mc4 148 rfl rfl
theorem og_w869 : Cond.code ⟨"OpenGraves$Almanac", "growOlder", "(LOpenGraves$Yard;)V"⟩ prog_2_method_9_code 2 none ∈ og_tbl := og_mc4 149 rfl rfl
theorem og_w870 : Cond.methodLink "OpenGraves$Almanac" 48 ⟨"java/lang/Math", "min", "(II)I"⟩ ∈ og_tbl := og_mc4 150 rfl rfl
theorem og_w872 : Cond.instanceMethod ⟨"OpenGraves", "filled", "(I)I"⟩ ∈ og_tbl := og_mc4 152 rfl rfl
theorem og_w873 : Cond.selects "OpenGraves" ⟨"OpenGraves", "filled", "(I)I"⟩ ⟨"OpenGraves", "filled", "(I)I"⟩ ∈ og_tbl := og_mc4 153 rfl rfl
theorem og_w874 : Cond.code ⟨"OpenGraves", "filled", "(I)I"⟩ prog_1_method_14_code 2 (some .int) ∈ og_tbl := og_mc4 154 rfl rfl
theorem og_w875 : Cond.methodLink "OpenGraves" 236 ⟨"OpenGraves$Outlook", "filledBehind", "(LOpenGraves$Script;LOpenGraves$Yard;I)I"⟩ ∈ og_tbl := og_mc4 155 rfl rfl
theorem og_w876 : Cond.instanceMethod ⟨"OpenGraves$Outlook", "filledBehind", "(LOpenGraves$Script;LOpenGraves$Yard;I)I"⟩ ∈ og_tbl := og_mc4 156 rfl rfl
theorem og_w877 : Cond.selects "OpenGraves$Outlook" ⟨"OpenGraves$Outlook", "filledBehind", "(LOpenGraves$Script;LOpenGraves$Yard;I)I"⟩ ⟨"OpenGraves$Outlook", "filledBehind", "(LOpenGraves$Script;LOpenGraves$Yard;I)I"⟩ ∈ og_tbl := og_mc4 157 rfl rfl
theorem og_w878 : Cond.code ⟨"OpenGraves$Outlook", "filledBehind", "(LOpenGraves$Script;LOpenGraves$Yard;I)I"⟩ prog_4_method_4_code 6 (some .int) ∈ og_tbl := og_mc4 158 rfl rfl
theorem og_w879 : Cond.methodLink "OpenGraves$Outlook" 64 ⟨"java/lang/Math", "min", "(II)I"⟩ ∈ og_tbl := og_mc4 159 rfl rfl
theorem og_w880 : Cond.methodLink "OpenGraves$Outlook" 70 ⟨"OpenGraves$Yard", "isFilled", "(I)Z"⟩ ∈ og_tbl := og_mc4 160 rfl rfl
theorem og_w882 : Cond.instanceMethod ⟨"OpenGraves", "taken", "(I)I"⟩ ∈ og_tbl := og_mc4 162 rfl rfl
theorem og_w883 : Cond.selects "OpenGraves" ⟨"OpenGraves", "taken", "(I)I"⟩ ⟨"OpenGraves", "taken", "(I)I"⟩ ∈ og_tbl := og_mc4 163 rfl rfl
theorem og_w884 : Cond.code ⟨"OpenGraves", "taken", "(I)I"⟩ prog_1_method_15_code 2 (some .int) ∈ og_tbl := og_mc4 164 rfl rfl
theorem og_w886 : Cond.instanceMethod ⟨"OpenGraves", "row", "(I)I"⟩ ∈ og_tbl := og_mc4 166 rfl rfl
theorem og_w887 : Cond.selects "OpenGraves" ⟨"OpenGraves", "row", "(I)I"⟩ ⟨"OpenGraves", "row", "(I)I"⟩ ∈ og_tbl := og_mc4 167 rfl rfl
theorem og_w888 : Cond.code ⟨"OpenGraves", "row", "(I)I"⟩ prog_1_method_16_code 3 (some .int) ∈ og_tbl := og_mc4 168 rfl rfl
theorem og_w889 : Cond.methodLink "OpenGraves" 242 ⟨"OpenGraves$Rows", "choose", "(LOpenGraves$Yard;)V"⟩ ∈ og_tbl := og_mc4 169 rfl rfl
theorem og_w890 : Cond.instanceMethod ⟨"OpenGraves$Rows", "choose", "(LOpenGraves$Yard;)V"⟩ ∈ og_tbl := og_mc4 170 rfl rfl
theorem og_w891 : Cond.selects "OpenGraves$Rows" ⟨"OpenGraves$Rows", "choose", "(LOpenGraves$Yard;)V"⟩ ⟨"OpenGraves$Rows", "choose", "(LOpenGraves$Yard;)V"⟩ ∈ og_tbl := og_mc4 171 rfl rfl
theorem og_w892 : Cond.code ⟨"OpenGraves$Rows", "choose", "(LOpenGraves$Yard;)V"⟩ prog_8_method_2_code 5 none ∈ og_tbl := og_mc4 172 rfl rfl
theorem og_w893 : Cond.methodLink "OpenGraves$Rows" 30 ⟨"OpenGraves$Rows", "bestFrom", "(LOpenGraves$Yard;II)I"⟩ ∈ og_tbl := og_mc4 173 rfl rfl
theorem og_w895 : Cond.instanceMethod ⟨"OpenGraves$Rows", "bestFrom", "(LOpenGraves$Yard;II)I"⟩ ∈ og_tbl := og_mc4 175 rfl rfl
theorem og_w896 : Cond.code ⟨"OpenGraves$Rows", "bestFrom", "(LOpenGraves$Yard;II)I"⟩ prog_8_method_3_code 6 (some .int) ∈ og_tbl := og_mc4 176 rfl rfl
theorem og_w897 : Cond.methodLink "OpenGraves$Rows" 37 ⟨"OpenGraves$Rows", "isFree", "(LOpenGraves$Yard;III)Z"⟩ ∈ og_tbl := og_mc4 177 rfl rfl
theorem og_w899 : Cond.instanceMethod ⟨"OpenGraves$Rows", "isFree", "(LOpenGraves$Yard;III)Z"⟩ ∈ og_tbl := og_mc4 179 rfl rfl
theorem og_w900 : Cond.code ⟨"OpenGraves$Rows", "isFree", "(LOpenGraves$Yard;III)Z"⟩ prog_8_method_5_code 5 (some .boolean) ∈ og_tbl := og_mc4 180 rfl rfl
theorem og_w901 : Cond.methodLink "OpenGraves$Rows" 51 ⟨"OpenGraves$Yard", "asks", "(I)Z"⟩ ∈ og_tbl := og_mc4 181 rfl rfl
theorem og_w902 : Cond.methodLink "OpenGraves$Rows" 55 ⟨"OpenGraves$Yard", "lives", "(I)Z"⟩ ∈ og_tbl := og_mc4 182 rfl rfl
theorem og_w903 : Cond.methodLink "OpenGraves$Rows" 58 ⟨"OpenGraves$Yard", "fits", "(II)Z"⟩ ∈ og_tbl := og_mc4 183 rfl rfl
theorem og_w904 : Cond.methodLink "OpenGraves$Rows" 41 ⟨"OpenGraves$Rows", "with", "(III)I"⟩ ∈ og_tbl := og_mc4 184 rfl rfl
theorem og_w906 : Cond.instanceMethod ⟨"OpenGraves$Rows", "with", "(III)I"⟩ ∈ og_tbl := og_mc4 186 rfl rfl
theorem og_w907 : Cond.code ⟨"OpenGraves$Rows", "with", "(III)I"⟩ prog_8_method_6_code 4 (some .int) ∈ og_tbl := og_mc4 187 rfl rfl
theorem og_w908 : Cond.methodLink "OpenGraves$Rows" 45 ⟨"java/lang/Math", "max", "(II)I"⟩ ∈ og_tbl := og_mc4 188 rfl rfl
theorem og_w909 : Cond.methodLink "OpenGraves$Rows" 34 ⟨"OpenGraves$Rows", "firstBest", "(LOpenGraves$Yard;II)I"⟩ ∈ og_tbl := og_mc4 189 rfl rfl
theorem og_w911 : Cond.instanceMethod ⟨"OpenGraves$Rows", "firstBest", "(LOpenGraves$Yard;II)I"⟩ ∈ og_tbl := og_mc4 191 rfl rfl
theorem og_w912 : Cond.code ⟨"OpenGraves$Rows", "firstBest", "(LOpenGraves$Yard;II)I"⟩ prog_8_method_4_code 6 (some .int) ∈ og_tbl := og_mc4 192 rfl rfl
theorem og_w913 : Cond.methodLink "OpenGraves" 245 ⟨"OpenGraves$Rows", "countFilled", "(LOpenGraves$Yard;)I"⟩ ∈ og_tbl := og_mc4 193 rfl rfl
theorem og_w914 : Cond.instanceMethod ⟨"OpenGraves$Rows", "countFilled", "(LOpenGraves$Yard;)I"⟩ ∈ og_tbl := og_mc4 194 rfl rfl
theorem og_w915 : Cond.selects "OpenGraves$Rows" ⟨"OpenGraves$Rows", "countFilled", "(LOpenGraves$Yard;)I"⟩ ⟨"OpenGraves$Rows", "countFilled", "(LOpenGraves$Yard;)I"⟩ ∈ og_tbl := og_mc4 195 rfl rfl
theorem og_w916 : Cond.code ⟨"OpenGraves$Rows", "countFilled", "(LOpenGraves$Yard;)I"⟩ prog_8_method_7_code 4 (some .int) ∈ og_tbl := og_mc4 196 rfl rfl
theorem og_w917 : Cond.methodLink "OpenGraves" 248 ⟨"OpenGraves$Rows", "wholeHarm", "(LOpenGraves$Yard;)I"⟩ ∈ og_tbl := og_mc4 197 rfl rfl
theorem og_w918 : Cond.instanceMethod ⟨"OpenGraves$Rows", "wholeHarm", "(LOpenGraves$Yard;)I"⟩ ∈ og_tbl := og_mc4 198 rfl rfl
theorem og_w919 : Cond.selects "OpenGraves$Rows" ⟨"OpenGraves$Rows", "wholeHarm", "(LOpenGraves$Yard;)I"⟩ ⟨"OpenGraves$Rows", "wholeHarm", "(LOpenGraves$Yard;)I"⟩ ∈ og_tbl := og_mc4 199 rfl rfl
theorem og_w920 : Cond.code ⟨"OpenGraves$Rows", "wholeHarm", "(LOpenGraves$Yard;)I"⟩ prog_8_method_8_code 4 (some .int) ∈ og_tbl := og_mc4 200 rfl rfl
set_option maxRecDepth 8000 in
theorem og_w922 : Cond.instanceMethod ⟨"OpenGraves", "persuade", "(I)I"⟩ ∈ og_tbl := og_mc4 202 rfl rfl
set_option maxRecDepth 8000 in
theorem og_w923 : Cond.selects "OpenGraves" ⟨"OpenGraves", "persuade", "(I)I"⟩ ⟨"OpenGraves", "persuade", "(I)I"⟩ ∈ og_tbl := og_mc4 203 rfl rfl
set_option maxRecDepth 8000 in
theorem og_w924 : Cond.code ⟨"OpenGraves", "persuade", "(I)I"⟩ prog_1_method_17_code 2 (some .int) ∈ og_tbl := og_mc4 204 rfl rfl
set_option maxRecDepth 8000 in
theorem og_w925 : Cond.methodLink "OpenGraves" 254 ⟨"OpenGraves$Outlook", "leastWill", "(LOpenGraves$Script;LOpenGraves$Yard;I)I"⟩ ∈ og_tbl := og_mc4 205 rfl rfl
set_option maxRecDepth 8000 in
theorem og_w926 : Cond.instanceMethod ⟨"OpenGraves$Outlook", "leastWill", "(LOpenGraves$Script;LOpenGraves$Yard;I)I"⟩ ∈ og_tbl := og_mc4 206 rfl rfl
set_option maxRecDepth 8000 in
theorem og_w927 : Cond.selects "OpenGraves$Outlook" ⟨"OpenGraves$Outlook", "leastWill", "(LOpenGraves$Script;LOpenGraves$Yard;I)I"⟩ ⟨"OpenGraves$Outlook", "leastWill", "(LOpenGraves$Script;LOpenGraves$Yard;I)I"⟩ ∈ og_tbl := og_mc4 207 rfl rfl
set_option maxRecDepth 8000 in
theorem og_w928 : Cond.code ⟨"OpenGraves$Outlook", "leastWill", "(LOpenGraves$Script;LOpenGraves$Yard;I)I"⟩ prog_4_method_5_code 6 (some .int) ∈ og_tbl := og_mc4 208 rfl rfl
set_option maxRecDepth 8000 in
theorem og_w929 : Cond.methodLink "OpenGraves$Outlook" 77 ⟨"OpenGraves$Reckoner", "value", "(LOpenGraves$Script;ILOpenGraves$Yard;II)I"⟩ ∈ og_tbl := og_mc4 209 rfl rfl
set_option maxRecDepth 8000 in
theorem og_w931 : Cond.instanceMethod ⟨"OpenGraves", "enemy", "(II)I"⟩ ∈ og_tbl := og_mc4 211 rfl rfl
set_option maxRecDepth 8000 in
theorem og_w932 : Cond.selects "OpenGraves" ⟨"OpenGraves", "enemy", "(II)I"⟩ ⟨"OpenGraves", "enemy", "(II)I"⟩ ∈ og_tbl := og_mc4 212 rfl rfl
set_option maxRecDepth 8000 in
theorem og_w933 : Cond.code ⟨"OpenGraves", "enemy", "(II)I"⟩ prog_1_method_18_code 4 (some .int) ∈ og_tbl := og_mc4 213 rfl rfl
set_option maxRecDepth 8000 in
theorem og_w934 : Cond.methodLink "OpenGraves" 257 ⟨"OpenGraves$Outlook", "mostTaken", "(LOpenGraves$Script;LOpenGraves$Yard;I)I"⟩ ∈ og_tbl := og_mc4 214 rfl rfl
set_option maxRecDepth 8000 in
theorem og_w935 : Cond.instanceMethod ⟨"OpenGraves$Outlook", "mostTaken", "(LOpenGraves$Script;LOpenGraves$Yard;I)I"⟩ ∈ og_tbl := og_mc4 215 rfl rfl
set_option maxRecDepth 8000 in
theorem og_w936 : Cond.selects "OpenGraves$Outlook" ⟨"OpenGraves$Outlook", "mostTaken", "(LOpenGraves$Script;LOpenGraves$Yard;I)I"⟩ ⟨"OpenGraves$Outlook", "mostTaken", "(LOpenGraves$Script;LOpenGraves$Yard;I)I"⟩ ∈ og_tbl := og_mc4 216 rfl rfl
set_option maxRecDepth 8000 in
theorem og_w937 : Cond.code ⟨"OpenGraves$Outlook", "mostTaken", "(LOpenGraves$Script;LOpenGraves$Yard;I)I"⟩ prog_4_method_6_code 8 (some .int) ∈ og_tbl := og_mc4 217 rfl rfl
set_option maxRecDepth 8000 in
theorem og_w938 : Cond.methodLink "OpenGraves$Outlook" 86 ⟨"OpenGraves$Outlook", "isDug", "(I)Z"⟩ ∈ og_tbl := og_mc4 218 rfl rfl
set_option maxRecDepth 8000 in
theorem og_w940 : Cond.instanceMethod ⟨"OpenGraves$Outlook", "isDug", "(I)Z"⟩ ∈ og_tbl := og_mc4 220 rfl rfl
set_option maxRecDepth 8000 in
theorem og_w941 : Cond.code ⟨"OpenGraves$Outlook", "isDug", "(I)Z"⟩ prog_4_method_7_code 3 (some .boolean) ∈ og_tbl := og_mc4 221 rfl rfl
set_option maxRecDepth 8000 in
theorem og_w942 : Cond.methodLink "OpenGraves$Outlook" 99 ⟨"OpenGraves$Yard", "canBeDug", "(I)Z"⟩ ∈ og_tbl := og_mc4 222 rfl rfl
set_option maxRecDepth 8000 in
theorem og_w943 : Cond.instanceMethod ⟨"OpenGraves$Yard", "canBeDug", "(I)Z"⟩ ∈ og_tbl := og_mc4 223 rfl rfl
set_option maxRecDepth 8000 in
theorem og_w944 : Cond.selects "OpenGraves$Yard" ⟨"OpenGraves$Yard", "canBeDug", "(I)Z"⟩ ⟨"OpenGraves$Yard", "canBeDug", "(I)Z"⟩ ∈ og_tbl := og_mc4 224 rfl rfl
set_option maxRecDepth 8000 in
theorem og_w945 : Cond.code ⟨"OpenGraves$Yard", "canBeDug", "(I)Z"⟩ prog_12_method_10_code 2 (some .boolean) ∈ og_tbl := og_mc4 225 rfl rfl
set_option maxRecDepth 8000 in
theorem og_w946 : Cond.methodLink "OpenGraves$Outlook" 89 ⟨"java/lang/System", "arraycopy", "(Ljava/lang/Object;ILjava/lang/Object;II)V"⟩ ∈ og_tbl := og_mc4 226 rfl rfl
set_option maxRecDepth 8000 in
theorem og_w947 : Cond.methodLink "OpenGraves$Outlook" 95 ⟨"OpenGraves$Outlook", "nextFeet", "(II)Z"⟩ ∈ og_tbl := og_mc4 227 rfl rfl
set_option maxRecDepth 8000 in
theorem og_w949 : Cond.instanceMethod ⟨"OpenGraves$Outlook", "nextFeet", "(II)Z"⟩ ∈ og_tbl := og_mc4 229 rfl rfl
set_option maxRecDepth 8000 in
theorem og_w950 : Cond.code ⟨"OpenGraves$Outlook", "nextFeet", "(II)Z"⟩ prog_4_method_8_code 6 (some .boolean) ∈ og_tbl := og_mc4 230 rfl rfl
set_option maxRecDepth 8000 in
theorem og_w952 : Cond.instanceMethod ⟨"OpenGraves", "odds", "(I)J"⟩ ∈ og_tbl := og_mc4 232 rfl rfl
set_option maxRecDepth 8000 in
theorem og_w953 : Cond.selects "OpenGraves" ⟨"OpenGraves", "odds", "(I)J"⟩ ⟨"OpenGraves", "odds", "(I)J"⟩ ∈ og_tbl := og_mc4 233 rfl rfl
set_option maxRecDepth 8000 in
theorem og_w954 : Cond.code ⟨"OpenGraves", "odds", "(I)J"⟩ prog_1_method_19_code 2 (some .long) ∈ og_tbl := og_mc4 234 rfl rfl
set_option maxRecDepth 8000 in
theorem og_w955 : Cond.methodLink "OpenGraves" 263 ⟨"OpenGraves$Outlook", "drawsThatFill", "(LOpenGraves$Script;LOpenGraves$Yard;I)J"⟩ ∈ og_tbl := og_mc4 235 rfl rfl
set_option maxRecDepth 8000 in
theorem og_w956 : Cond.instanceMethod ⟨"OpenGraves$Outlook", "drawsThatFill", "(LOpenGraves$Script;LOpenGraves$Yard;I)J"⟩ ∈ og_tbl := og_mc4 236 rfl rfl
set_option maxRecDepth 8000 in
theorem og_w957 : Cond.selects "OpenGraves$Outlook" ⟨"OpenGraves$Outlook", "drawsThatFill", "(LOpenGraves$Script;LOpenGraves$Yard;I)J"⟩ ⟨"OpenGraves$Outlook", "drawsThatFill", "(LOpenGraves$Script;LOpenGraves$Yard;I)J"⟩ ∈ og_tbl := og_mc4 237 rfl rfl
set_option maxRecDepth 8000 in
theorem og_w958 : Cond.code ⟨"OpenGraves$Outlook", "drawsThatFill", "(LOpenGraves$Script;LOpenGraves$Yard;I)J"⟩ prog_4_method_9_code 10 (some .long) ∈ og_tbl := og_mc4 238 rfl rfl
set_option maxRecDepth 8000 in
theorem og_w959 : Cond.methodLink "OpenGraves$Outlook" 108 ⟨"OpenGraves$Yard", "lives", "(I)Z"⟩ ∈ og_tbl := og_mc4 239 rfl rfl
theorem og_w960 : Cond.methodLinkNest "OpenGraves$Outlook" 111 ⟨"OpenGraves", "cut", "(II)I"⟩ "OpenGraves" ∈ og_nest := og_nc5 0 rfl rfl
theorem og_w961 : Cond.methodLink "OpenGraves$Outlook" 114 ⟨"OpenGraves$Outlook", "drawsOf", "(LOpenGraves$Yard;I)J"⟩ ∈ og_tbl := og_mc5 1 rfl rfl
theorem og_w963 : Cond.instanceMethod ⟨"OpenGraves$Outlook", "drawsOf", "(LOpenGraves$Yard;I)J"⟩ ∈ og_tbl := og_mc5 3 rfl rfl
theorem og_w964 : Cond.code ⟨"OpenGraves$Outlook", "drawsOf", "(LOpenGraves$Yard;I)J"⟩ prog_4_method_10_code 6 (some .long) ∈ og_tbl := og_mc5 4 rfl rfl
theorem og_w965 : Cond.methodLink "OpenGraves$Outlook" 118 ⟨"OpenGraves$Outlook", "isFilledBy", "(LOpenGraves$Script;LOpenGraves$Yard;II)Z"⟩ ∈ og_tbl := og_mc5 5 rfl rfl
theorem og_w967 : Cond.instanceMethod ⟨"OpenGraves$Outlook", "isFilledBy", "(LOpenGraves$Script;LOpenGraves$Yard;II)Z"⟩ ∈ og_tbl := og_mc5 7 rfl rfl
theorem og_w968 : Cond.code ⟨"OpenGraves$Outlook", "isFilledBy", "(LOpenGraves$Script;LOpenGraves$Yard;II)Z"⟩ prog_4_method_11_code 6 (some .boolean) ∈ og_tbl := og_mc5 8 rfl rfl
theorem og_w969 : Cond.methodLink "OpenGraves$Outlook" 122 ⟨"OpenGraves$Yard", "nextGrave", "(I)I"⟩ ∈ og_tbl := og_mc5 9 rfl rfl
theorem og_w970 : Cond.methodLink "OpenGraves$Outlook" 126 ⟨"OpenGraves$Yard", "bury", "(III)V"⟩ ∈ og_tbl := og_mc5 10 rfl rfl
theorem og_w972 : Cond.instanceMethod ⟨"OpenGraves", "see", "()I"⟩ ∈ og_tbl := og_mc5 12 rfl rfl
theorem og_w973 : Cond.selects "OpenGraves" ⟨"OpenGraves", "see", "()I"⟩ ⟨"OpenGraves", "see", "()I"⟩ ∈ og_tbl := og_mc5 13 rfl rfl
theorem og_w974 : Cond.code ⟨"OpenGraves", "see", "()I"⟩ prog_1_method_20_code 4 (some .int) ∈ og_tbl := og_mc5 14 rfl rfl
theorem og_w975 : Cond.methodLink "OpenGraves" 267 ⟨"OpenGraves$Tape", "at", "(I)I"⟩ ∈ og_tbl := og_mc5 15 rfl rfl
theorem og_w976 : Cond.methodLink "OpenGraves" 276 ⟨"java/lang/System", "arraycopy", "(Ljava/lang/Object;ILjava/lang/Object;II)V"⟩ ∈ og_tbl := og_mc5 16 rfl rfl
theorem og_w978 : Cond.instanceMethod ⟨"OpenGraves", "wills", "(I)I"⟩ ∈ og_tbl := og_mc5 18 rfl rfl
theorem og_w979 : Cond.selects "OpenGraves" ⟨"OpenGraves", "wills", "(I)I"⟩ ⟨"OpenGraves", "wills", "(I)I"⟩ ∈ og_tbl := og_mc5 19 rfl rfl
theorem og_w980 : Cond.code ⟨"OpenGraves", "wills", "(I)I"⟩ prog_1_method_21_code 2 (some .int) ∈ og_tbl := og_mc5 20 rfl rfl
theorem og_w981 : Cond.methodLink "OpenGraves" 282 ⟨"OpenGraves$Outlook", "willsOf", "(LOpenGraves$Script;LOpenGraves$Yard;I)I"⟩ ∈ og_tbl := og_mc5 21 rfl rfl
theorem og_w982 : Cond.instanceMethod ⟨"OpenGraves$Outlook", "willsOf", "(LOpenGraves$Script;LOpenGraves$Yard;I)I"⟩ ∈ og_tbl := og_mc5 22 rfl rfl
theorem og_w983 : Cond.selects "OpenGraves$Outlook" ⟨"OpenGraves$Outlook", "willsOf", "(LOpenGraves$Script;LOpenGraves$Yard;I)I"⟩ ⟨"OpenGraves$Outlook", "willsOf", "(LOpenGraves$Script;LOpenGraves$Yard;I)I"⟩ ∈ og_tbl := og_mc5 23 rfl rfl
theorem og_w984 : Cond.code ⟨"OpenGraves$Outlook", "willsOf", "(LOpenGraves$Script;LOpenGraves$Yard;I)I"⟩ prog_4_method_12_code 6 (some .int) ∈ og_tbl := og_mc5 24 rfl rfl
theorem og_w985 : Cond.methodLink "OpenGraves$Outlook" 130 ⟨"OpenGraves$Outlook", "agrees", "(LOpenGraves$Script;LOpenGraves$Yard;II)Z"⟩ ∈ og_tbl := og_mc5 25 rfl rfl
theorem og_w987 : Cond.instanceMethod ⟨"OpenGraves$Outlook", "agrees", "(LOpenGraves$Script;LOpenGraves$Yard;II)Z"⟩ ∈ og_tbl := og_mc5 27 rfl rfl
theorem og_w988 : Cond.code ⟨"OpenGraves$Outlook", "agrees", "(LOpenGraves$Script;LOpenGraves$Yard;II)Z"⟩ prog_4_method_13_code 8 (some .boolean) ∈ og_tbl := og_mc5 28 rfl rfl
theorem og_w989 : Cond.methodLink "OpenGraves$Outlook" 136 ⟨"java/lang/Math", "max", "(II)I"⟩ ∈ og_tbl := og_mc5 29 rfl rfl
theorem og_w990 : Cond.methodLink "OpenGraves$Outlook" 139 ⟨"OpenGraves$Outlook", "isAsSeen", "(I)Z"⟩ ∈ og_tbl := og_mc5 30 rfl rfl
theorem og_w992 : Cond.instanceMethod ⟨"OpenGraves$Outlook", "isAsSeen", "(I)Z"⟩ ∈ og_tbl := og_mc5 32 rfl rfl
theorem og_w993 : Cond.code ⟨"OpenGraves$Outlook", "isAsSeen", "(I)Z"⟩ prog_4_method_14_code 4 (some .boolean) ∈ og_tbl := og_mc5 33 rfl rfl
theorem og_w994 : Cond.methodLink "OpenGraves$Outlook" 142 ⟨"OpenGraves$Yard", "isGrave", "(I)Z"⟩ ∈ og_tbl := og_mc5 34 rfl rfl
theorem og_w996 : Cond.instanceMethod ⟨"OpenGraves", "tells", "(II)I"⟩ ∈ og_tbl := og_mc5 36 rfl rfl
theorem og_w997 : Cond.selects "OpenGraves" ⟨"OpenGraves", "tells", "(II)I"⟩ ⟨"OpenGraves", "tells", "(II)I"⟩ ∈ og_tbl := og_mc5 37 rfl rfl
theorem og_w998 : Cond.code ⟨"OpenGraves", "tells", "(II)I"⟩ prog_1_method_22_code 5 (some .int) ∈ og_tbl := og_mc5 38 rfl rfl
theorem og_w999 : Cond.methodLink "OpenGraves" 285 ⟨"OpenGraves$Outlook", "countFillings", "(LOpenGraves$Script;LOpenGraves$Yard;II)V"⟩ ∈ og_tbl := og_mc5 39 rfl rfl
theorem og_w1000 : Cond.instanceMethod ⟨"OpenGraves$Outlook", "countFillings", "(LOpenGraves$Script;LOpenGraves$Yard;II)V"⟩ ∈ og_tbl := og_mc5 40 rfl rfl
theorem og_w1001 : Cond.selects "OpenGraves$Outlook" ⟨"OpenGraves$Outlook", "countFillings", "(LOpenGraves$Script;LOpenGraves$Yard;II)V"⟩ ⟨"OpenGraves$Outlook", "countFillings", "(LOpenGraves$Script;LOpenGraves$Yard;II)V"⟩ ∈ og_tbl := og_mc5 41 rfl rfl
theorem og_w1002 : Cond.code ⟨"OpenGraves$Outlook", "countFillings", "(LOpenGraves$Script;LOpenGraves$Yard;II)V"⟩ prog_4_method_15_code 8 none ∈ og_tbl := og_mc5 42 rfl rfl
theorem og_w1003 : Cond.methodLink "OpenGraves$Outlook" 145 ⟨"OpenGraves$Outlook", "addFillings", "(I)V"⟩ ∈ og_tbl := og_mc5 43 rfl rfl
theorem og_w1005 : Cond.instanceMethod ⟨"OpenGraves$Outlook", "addFillings", "(I)V"⟩ ∈ og_tbl := og_mc5 45 rfl rfl
theorem og_w1006 : Cond.code ⟨"OpenGraves$Outlook", "addFillings", "(I)V"⟩ prog_4_method_16_code 3 none ∈ og_tbl := og_mc5 46 rfl rfl
theorem og_w1007 : Cond.methodLink "OpenGraves" 289 ⟨"java/lang/Integer", "bitCount", "(I)I"⟩ ∈ og_tbl := og_mc5 47 rfl rfl
theorem og_w1008 : Cond.static ⟨"java/lang/Integer", "bitCount", "(I)I"⟩ ∈ og_tbl := og_mc5 48 rfl rfl
theorem og_w1009 : Cond.code ⟨"java/lang/Integer", "bitCount", "(I)I"⟩ prog_15_method_49_code 1 (some .int) ∈ og_tbl := og_mc5 49 rfl rfl
theorem og_w1010 : Cond.constant "java/lang/Integer" 265 (1431655765 : Int32) ∈ og_tbl := og_mc5 50 rfl rfl
theorem og_w1011 : Cond.constant "java/lang/Integer" 266 (858993459 : Int32) ∈ og_tbl := og_mc5 51 rfl rfl
theorem og_w1012 : Cond.constant "java/lang/Integer" 267 (252645135 : Int32) ∈ og_tbl := og_mc5 52 rfl rfl
theorem og_w1013 : Cond.methodLink "OpenGraves" 294 ⟨"OpenGraves$Outlook", "tellingCell", "(LOpenGraves$Yard;I)I"⟩ ∈ og_tbl := og_mc5 53 rfl rfl
theorem og_w1014 : Cond.instanceMethod ⟨"OpenGraves$Outlook", "tellingCell", "(LOpenGraves$Yard;I)I"⟩ ∈ og_tbl := og_mc5 54 rfl rfl
theorem og_w1015 : Cond.selects "OpenGraves$Outlook" ⟨"OpenGraves$Outlook", "tellingCell", "(LOpenGraves$Yard;I)I"⟩ ⟨"OpenGraves$Outlook", "tellingCell", "(LOpenGraves$Yard;I)I"⟩ ∈ og_tbl := og_mc5 55 rfl rfl
theorem og_w1016 : Cond.code ⟨"OpenGraves$Outlook", "tellingCell", "(LOpenGraves$Yard;I)I"⟩ prog_4_method_17_code 7 (some .int) ∈ og_tbl := og_mc5 56 rfl rfl
theorem og_w1017 : Cond.methodLink "OpenGraves$Outlook" 149 ⟨"OpenGraves$Outlook", "mostLeft", "(II)I"⟩ ∈ og_tbl := og_mc5 57 rfl rfl
theorem og_w1018 : Cond.instanceMethod ⟨"OpenGraves$Outlook", "mostLeft", "(II)I"⟩ ∈ og_tbl := og_mc5 58 rfl rfl
theorem og_w1019 : Cond.selects "OpenGraves$Outlook" ⟨"OpenGraves$Outlook", "mostLeft", "(II)I"⟩ ⟨"OpenGraves$Outlook", "mostLeft", "(II)I"⟩ ∈ og_tbl := og_mc5 59 rfl rfl
theorem og_w1020 : Cond.code ⟨"OpenGraves$Outlook", "mostLeft", "(II)I"⟩ prog_4_method_18_code 3 (some .int) ∈ og_tbl := og_mc5 60 rfl rfl
theorem og_w1021 : Cond.methodLink "OpenGraves" 298 ⟨"OpenGraves$Outlook", "mostLeft", "(II)I"⟩ ∈ og_tbl := og_mc5 61 rfl rfl
theorem og_w1023 : Cond.instanceMethod ⟨"OpenGraves", "dig", "(I)I"⟩ ∈ og_tbl := og_mc5 63 rfl rfl
theorem og_w1024 : Cond.selects "OpenGraves" ⟨"OpenGraves", "dig", "(I)I"⟩ ⟨"OpenGraves", "dig", "(I)I"⟩ ∈ og_tbl := og_mc5 64 rfl rfl
theorem og_w1025 : Cond.code ⟨"OpenGraves", "dig", "(I)I"⟩ prog_1_method_23_code 2 (some .int) ∈ og_tbl := og_mc5 65 rfl rfl
theorem og_w1026 : Cond.methodLink "OpenGraves" 301 ⟨"OpenGraves$Yard", "canBeDug", "(I)Z"⟩ ∈ og_tbl := og_mc5 66 rfl rfl
theorem og_w1027 : Cond.methodLink "OpenGraves" 304 ⟨"OpenGraves$Past", "keep", "(LOpenGraves$Yard;)V"⟩ ∈ og_tbl := og_mc5 67 rfl rfl
theorem og_w1028 : Cond.instanceMethod ⟨"OpenGraves$Past", "keep", "(LOpenGraves$Yard;)V"⟩ ∈ og_tbl := og_mc5 68 rfl rfl
theorem og_w1029 : Cond.selects "OpenGraves$Past" ⟨"OpenGraves$Past", "keep", "(LOpenGraves$Yard;)V"⟩ ⟨"OpenGraves$Past", "keep", "(LOpenGraves$Yard;)V"⟩ ∈ og_tbl := og_mc5 69 rfl rfl
theorem og_w1030 : Cond.code ⟨"OpenGraves$Past", "keep", "(LOpenGraves$Yard;)V"⟩ prog_6_method_3_code 2 none ∈ og_tbl := og_mc5 70 rfl rfl
theorem og_w1031 : Cond.methodLink "OpenGraves$Past" 25 ⟨"OpenGraves$Yard", "become", "(LOpenGraves$Yard;)V"⟩ ∈ og_tbl := og_mc5 71 rfl rfl
theorem og_w1033 : Cond.instanceMethod ⟨"OpenGraves", "fill", "(II)Z"⟩ ∈ og_tbl := og_mc5 73 rfl rfl
theorem og_w1034 : Cond.selects "OpenGraves" ⟨"OpenGraves", "fill", "(II)Z"⟩ ⟨"OpenGraves", "fill", "(II)Z"⟩ ∈ og_tbl := og_mc5 74 rfl rfl
theorem og_w1035 : Cond.code ⟨"OpenGraves", "fill", "(II)Z"⟩ prog_1_method_24_code 3 (some .boolean) ∈ og_tbl := og_mc5 75 rfl rfl
theorem og_w1036 : Cond.methodLink "OpenGraves" 307 ⟨"OpenGraves$Yard", "isFilled", "(I)Z"⟩ ∈ og_tbl := og_mc5 76 rfl rfl
theorem og_w1037 : Cond.methodLink "OpenGraves" 310 ⟨"OpenGraves$Yard", "fits", "(II)Z"⟩ ∈ og_tbl := og_mc5 77 rfl rfl
theorem og_w1038 : Cond.methodLink "OpenGraves" 314 ⟨"OpenGraves$Yard", "bury", "(III)V"⟩ ∈ og_tbl := og_mc5 78 rfl rfl
theorem og_w1040 : Cond.instanceMethod ⟨"OpenGraves", "talk", "(II)Z"⟩ ∈ og_tbl := og_mc5 80 rfl rfl
theorem og_w1041 : Cond.selects "OpenGraves" ⟨"OpenGraves", "talk", "(II)Z"⟩ ⟨"OpenGraves", "talk", "(II)Z"⟩ ∈ og_tbl := og_mc5 81 rfl rfl
theorem og_w1042 : Cond.code ⟨"OpenGraves", "talk", "(II)Z"⟩ prog_1_method_25_code 3 (some .boolean) ∈ og_tbl := og_mc5 82 rfl rfl
theorem og_w1044 : Cond.instanceMethod ⟨"OpenGraves", "months", "(I)I"⟩ ∈ og_tbl := og_mc5 84 rfl rfl
theorem og_w1045 : Cond.selects "OpenGraves" ⟨"OpenGraves", "months", "(I)I"⟩ ⟨"OpenGraves", "months", "(I)I"⟩ ∈ og_tbl := og_mc5 85 rfl rfl
theorem og_w1046 : Cond.code ⟨"OpenGraves", "months", "(I)I"⟩ prog_1_method_26_code 4 (some .int) ∈ og_tbl := og_mc5 86 rfl rfl
theorem og_w1047 : Cond.methodLink "OpenGraves" 318 ⟨"OpenGraves", "canPass", "(I)Z"⟩ ∈ og_tbl := og_mc5 87 rfl rfl
theorem og_w1049 : Cond.instanceMethod ⟨"OpenGraves", "canPass", "(I)Z"⟩ ∈ og_tbl := og_mc5 89 rfl rfl
theorem og_w1050 : Cond.code ⟨"OpenGraves", "canPass", "(I)Z"⟩ prog_1_method_41_code 2 (some .boolean) ∈ og_tbl := og_mc5 90 rfl rfl
theorem og_w1051 : Cond.methodLink "OpenGraves" 321 ⟨"OpenGraves$Almanac", "pass", "(LOpenGraves$Script;LOpenGraves$Yard;)I"⟩ ∈ og_tbl := og_mc5 91 rfl rfl
theorem og_w1053 : Cond.instanceMethod ⟨"OpenGraves", "chance", "(I)I"⟩ ∈ og_tbl := og_mc5 93 rfl rfl
theorem og_w1054 : Cond.selects "OpenGraves" ⟨"OpenGraves", "chance", "(I)I"⟩ ⟨"OpenGraves", "chance", "(I)I"⟩ ∈ og_tbl := og_mc5 94 rfl rfl
theorem og_w1055 : Cond.code ⟨"OpenGraves", "chance", "(I)I"⟩ prog_1_method_27_code 4 (some .int) ∈ og_tbl := og_mc5 95 rfl rfl
theorem og_w1056 : Cond.methodLink "OpenGraves" 325 ⟨"OpenGraves", "drawDeaths", "()I"⟩ ∈ og_tbl := og_mc5 96 rfl rfl
theorem og_w1058 : Cond.instanceMethod ⟨"OpenGraves", "drawDeaths", "()I"⟩ ∈ og_tbl := og_mc5 98 rfl rfl
theorem og_w1059 : Cond.code ⟨"OpenGraves", "drawDeaths", "()I"⟩ prog_1_method_42_code 3 (some .int) ∈ og_tbl := og_mc5 99 rfl rfl
theorem og_w1060 : Cond.methodLink "OpenGraves" 374 ⟨"OpenGraves", "drawOfHundred", "()I"⟩ ∈ og_tbl := og_mc5 100 rfl rfl
theorem og_w1062 : Cond.instanceMethod ⟨"OpenGraves", "drawOfHundred", "()I"⟩ ∈ og_tbl := og_mc5 102 rfl rfl
theorem og_w1063 : Cond.code ⟨"OpenGraves", "drawOfHundred", "()I"⟩ prog_1_method_43_code 1 (some .int) ∈ og_tbl := og_mc5 103 rfl rfl
theorem og_w1064 : Cond.constantLong "OpenGraves" 377 (1103515245 : Int64) ∈ og_tbl := og_mc5 104 rfl rfl
theorem og_w1065 : Cond.constantLong "OpenGraves" 379 (12345 : Int64) ∈ og_tbl := og_mc5 105 rfl rfl
theorem og_w1066 : Cond.constantLong "OpenGraves" 381 (2147483647 : Int64) ∈ og_tbl := og_mc5 106 rfl rfl
theorem og_w1068 : Cond.instanceMethod ⟨"OpenGraves", "undo", "()Z"⟩ ∈ og_tbl := og_mc5 108 rfl rfl
theorem og_w1069 : Cond.selects "OpenGraves" ⟨"OpenGraves", "undo", "()Z"⟩ ⟨"OpenGraves", "undo", "()Z"⟩ ∈ og_tbl := og_mc5 109 rfl rfl
theorem og_w1070 : Cond.code ⟨"OpenGraves", "undo", "()Z"⟩ prog_1_method_28_code 1 (some .boolean) ∈ og_tbl := og_mc5 110 rfl rfl
theorem og_w1071 : Cond.methodLink "OpenGraves" 328 ⟨"OpenGraves$Past", "restore", "(LOpenGraves$Yard;)V"⟩ ∈ og_tbl := og_mc5 111 rfl rfl
theorem og_w1072 : Cond.instanceMethod ⟨"OpenGraves$Past", "restore", "(LOpenGraves$Yard;)V"⟩ ∈ og_tbl := og_mc5 112 rfl rfl
theorem og_w1073 : Cond.selects "OpenGraves$Past" ⟨"OpenGraves$Past", "restore", "(LOpenGraves$Yard;)V"⟩ ⟨"OpenGraves$Past", "restore", "(LOpenGraves$Yard;)V"⟩ ∈ og_tbl := og_mc5 113 rfl rfl
theorem og_w1074 : Cond.code ⟨"OpenGraves$Past", "restore", "(LOpenGraves$Yard;)V"⟩ prog_6_method_4_code 2 none ∈ og_tbl := og_mc5 114 rfl rfl
theorem og_w1076 : Cond.instanceMethod ⟨"OpenGraves", "seed", "(I)Z"⟩ ∈ og_tbl := og_mc5 116 rfl rfl
theorem og_w1077 : Cond.selects "OpenGraves" ⟨"OpenGraves", "seed", "(I)Z"⟩ ⟨"OpenGraves", "seed", "(I)Z"⟩ ∈ og_tbl := og_mc5 117 rfl rfl
theorem og_w1078 : Cond.code ⟨"OpenGraves", "seed", "(I)Z"⟩ prog_1_method_29_code 2 (some .boolean) ∈ og_tbl := og_mc5 118 rfl rfl
theorem og_w1080 : Cond.instanceMethod ⟨"OpenGraves", "ask", "()J"⟩ ∈ og_tbl := og_mc5 120 rfl rfl
theorem og_w1081 : Cond.selects "OpenGraves" ⟨"OpenGraves", "ask", "()J"⟩ ⟨"OpenGraves", "ask", "()J"⟩ ∈ og_tbl := og_mc5 121 rfl rfl
theorem og_w1082 : Cond.code ⟨"OpenGraves", "ask", "()J"⟩ prog_1_method_30_code 6 (some .long) ∈ og_tbl := og_mc5 122 rfl rfl
theorem og_w1083 : Cond.methodLink "OpenGraves" 331 ⟨"OpenGraves$Grammar", "readQuestion", "(LOpenGraves$Script;)I"⟩ ∈ og_tbl := og_mc5 123 rfl rfl
theorem og_w1084 : Cond.instanceMethod ⟨"OpenGraves$Grammar", "readQuestion", "(LOpenGraves$Script;)I"⟩ ∈ og_tbl := og_mc5 124 rfl rfl
theorem og_w1085 : Cond.selects "OpenGraves$Grammar" ⟨"OpenGraves$Grammar", "readQuestion", "(LOpenGraves$Script;)I"⟩ ⟨"OpenGraves$Grammar", "readQuestion", "(LOpenGraves$Script;)I"⟩ ∈ og_tbl := og_mc5 125 rfl rfl
theorem og_w1086 : Cond.code ⟨"OpenGraves$Grammar", "readQuestion", "(LOpenGraves$Script;)I"⟩ prog_3_method_2_code 3 (some .int) ∈ og_tbl := og_mc5 126 rfl rfl
theorem og_w1087 : Cond.methodLink "OpenGraves$Grammar" 19 ⟨"OpenGraves$Script", "clear", "()V"⟩ ∈ og_tbl := og_mc5 127 rfl rfl
theorem og_w1088 : Cond.methodLink "OpenGraves$Grammar" 24 ⟨"OpenGraves$Tokens", "begin", "()V"⟩ ∈ og_tbl := og_mc5 128 rfl rfl
theorem og_w1089 : Cond.methodLink "OpenGraves$Grammar" 40 ⟨"OpenGraves$Grammar", "readRule", "(LOpenGraves$Script;IZ)V"⟩ ∈ og_tbl := og_mc5 129 rfl rfl
theorem og_w1090 : Cond.methodLink "OpenGraves$Grammar" 44 ⟨"OpenGraves$Tokens", "goesOn", "()Z"⟩ ∈ og_tbl := og_mc5 130 rfl rfl
theorem og_w1091 : Cond.constantLong "OpenGraves" 335 (-1 : Int64) ∈ og_tbl := og_mc5 131 rfl rfl
theorem og_w1092 : Cond.methodLink "OpenGraves" 339 ⟨"OpenGraves", "joined", "(IJII)J"⟩ ∈ og_tbl := og_mc5 132 rfl rfl
theorem og_w1093 : Cond.static ⟨"OpenGraves", "joined", "(IJII)J"⟩ ∈ og_tbl := og_mc5 133 rfl rfl
theorem og_w1094 : Cond.code ⟨"OpenGraves", "joined", "(IJII)J"⟩ prog_1_method_44_code 5 (some .long) ∈ og_tbl := og_mc5 134 rfl rfl
theorem og_w1095 : Cond.methodLink "OpenGraves" 383 ⟨"java/lang/Math", "max", "(JJ)J"⟩ ∈ og_tbl := og_mc5 135 rfl rfl
theorem og_w1096 : Cond.methodLink "OpenGraves" 386 ⟨"java/lang/Math", "min", "(JJ)J"⟩ ∈ og_tbl := og_mc5 136 rfl rfl
theorem og_w1098 : Cond.instanceMethod ⟨"OpenGraves", "image", "()I"⟩ ∈ og_tbl := og_mc5 138 rfl rfl
theorem og_w1099 : Cond.selects "OpenGraves" ⟨"OpenGraves", "image", "()I"⟩ ⟨"OpenGraves", "image", "()I"⟩ ∈ og_tbl := og_mc5 139 rfl rfl
theorem og_w1100 : Cond.code ⟨"OpenGraves", "image", "()I"⟩ prog_1_method_31_code 2 (some .int) ∈ og_tbl := og_mc5 140 rfl rfl
theorem og_w1101 : Cond.methodLink "OpenGraves" 346 ⟨"OpenGraves", "write", "(I)V"⟩ ∈ og_tbl := og_mc5 141 rfl rfl
theorem og_w1103 : Cond.instanceMethod ⟨"OpenGraves", "write", "(I)V"⟩ ∈ og_tbl := og_mc5 143 rfl rfl
theorem og_w1104 : Cond.code ⟨"OpenGraves", "write", "(I)V"⟩ prog_1_method_45_code 2 none ∈ og_tbl := og_mc5 144 rfl rfl
theorem og_w1105 : Cond.methodLink "OpenGraves" 349 ⟨"OpenGraves", "mixed", "([II)I"⟩ ∈ og_tbl := og_mc5 145 rfl rfl
theorem og_w1106 : Cond.static ⟨"OpenGraves", "mixed", "([II)I"⟩ ∈ og_tbl := og_mc5 146 rfl rfl
theorem og_w1107 : Cond.code ⟨"OpenGraves", "mixed", "([II)I"⟩ prog_1_method_46_code 4 (some .int) ∈ og_tbl := og_mc5 147 rfl rfl
theorem og_w1109 : Cond.instanceMethod ⟨"OpenGraves", "octet", "(I)I"⟩ ∈ og_tbl := og_mc5 149 rfl rfl
theorem og_w1110 : Cond.selects "OpenGraves" ⟨"OpenGraves", "octet", "(I)I"⟩ ⟨"OpenGraves", "octet", "(I)I"⟩ ∈ og_tbl := og_mc5 150 rfl rfl
theorem og_w1111 : Cond.code ⟨"OpenGraves", "octet", "(I)I"⟩ prog_1_method_32_code 2 (some .int) ∈ og_tbl := og_mc5 151 rfl rfl
theorem og_w1113 : Cond.instanceMethod ⟨"OpenGraves", "on", "()Z"⟩ ∈ og_tbl := og_mc5 153 rfl rfl
theorem og_w1114 : Cond.selects "OpenGraves" ⟨"OpenGraves", "on", "()Z"⟩ ⟨"OpenGraves", "on", "()Z"⟩ ∈ og_tbl := og_mc5 154 rfl rfl
theorem og_w1115 : Cond.code ⟨"OpenGraves", "on", "()Z"⟩ prog_1_method_33_code 3 (some .boolean) ∈ og_tbl := og_mc5 155 rfl rfl
theorem og_w1116 : Cond.methodLink "OpenGraves" 353 ⟨"OpenGraves", "isImage", "()Z"⟩ ∈ og_tbl := og_mc5 156 rfl rfl
theorem og_w1118 : Cond.instanceMethod ⟨"OpenGraves", "isImage", "()Z"⟩ ∈ og_tbl := og_mc5 158 rfl rfl
theorem og_w1119 : Cond.code ⟨"OpenGraves", "isImage", "()Z"⟩ prog_1_method_47_code 2 (some .boolean) ∈ og_tbl := og_mc5 159 rfl rfl
theorem og_w1120 : Cond.methodLink "OpenGraves" 357 ⟨"OpenGraves", "readImage", "(LOpenGraves$Yard;)Z"⟩ ∈ og_tbl := og_mc5 160 rfl rfl
theorem og_w1122 : Cond.instanceMethod ⟨"OpenGraves", "readImage", "(LOpenGraves$Yard;)Z"⟩ ∈ og_tbl := og_mc5 162 rfl rfl
theorem og_w1123 : Cond.code ⟨"OpenGraves", "readImage", "(LOpenGraves$Yard;)Z"⟩ prog_1_method_48_code 5 (some .boolean) ∈ og_tbl := og_mc5 163 rfl rfl
theorem og_w1124 : Cond.methodLink "OpenGraves" 388 ⟨"OpenGraves$Yard", "isSound", "()Z"⟩ ∈ og_tbl := og_mc5 164 rfl rfl
theorem og_w1125 : Cond.instanceMethod ⟨"OpenGraves$Yard", "isSound", "()Z"⟩ ∈ og_tbl := og_mc5 165 rfl rfl
theorem og_w1126 : Cond.selects "OpenGraves$Yard" ⟨"OpenGraves$Yard", "isSound", "()Z"⟩ ⟨"OpenGraves$Yard", "isSound", "()Z"⟩ ∈ og_tbl := og_mc5 166 rfl rfl
theorem og_w1127 : Cond.code ⟨"OpenGraves$Yard", "isSound", "()Z"⟩ prog_12_method_17_code 3 (some .boolean) ∈ og_tbl := og_mc5 167 rfl rfl
theorem og_w1128 : Cond.methodLink "OpenGraves$Yard" 75 ⟨"OpenGraves$Yard", "isSoundInside", "(I)Z"⟩ ∈ og_tbl := og_mc5 168 rfl rfl
theorem og_w1130 : Cond.instanceMethod ⟨"OpenGraves$Yard", "isSoundInside", "(I)Z"⟩ ∈ og_tbl := og_mc5 170 rfl rfl
theorem og_w1131 : Cond.code ⟨"OpenGraves$Yard", "isSoundInside", "(I)Z"⟩ prog_12_method_18_code 4 (some .boolean) ∈ og_tbl := og_mc5 171 rfl rfl
theorem og_w1132 : Cond.methodLink "OpenGraves$Yard" 78 ⟨"OpenGraves$Yard", "lives", "(I)Z"⟩ ∈ og_tbl := og_mc5 172 rfl rfl
theorem og_w1134 : Cond.instanceMethod ⟨"OpenGraves", "status", "(I)I"⟩ ∈ og_tbl := og_mc5 174 rfl rfl
theorem og_w1135 : Cond.selects "OpenGraves" ⟨"OpenGraves", "status", "(I)I"⟩ ⟨"OpenGraves", "status", "(I)I"⟩ ∈ og_tbl := og_mc5 175 rfl rfl
theorem og_w1136 : Cond.code ⟨"OpenGraves", "status", "(I)I"⟩ prog_1_method_34_code 2 (some .int) ∈ og_tbl := og_mc5 176 rfl rfl
theorem og_w1143 : Cond.fieldLink "OpenGravesModel" 7 "OpenGravesModel" "tape" "[I" ∈ og_tbl := og_mc5 183 rfl rfl
theorem og_w1144 : Cond.fieldLink "OpenGravesModel" 239 "OpenGravesModel" "taped" "I" ∈ og_tbl := og_mc5 184 rfl rfl
theorem og_w1145 : Cond.fieldLink "OpenGravesModel" 248 "OpenGravesModel" "at" "I" ∈ og_tbl := og_mc5 185 rfl rfl
theorem og_w1146 : Cond.fieldLink "OpenGravesModel" 251 "OpenGravesModel" "end" "I" ∈ og_tbl := og_mc5 186 rfl rfl
theorem og_w1147 : Cond.fieldLink "OpenGravesModel" 262 "OpenGravesModel" "ended" "I" ∈ og_tbl := og_mc5 187 rfl rfl
theorem og_w1148 : Cond.fieldLink "OpenGravesModel" 242 "OpenGravesModel" "bad" "I" ∈ og_tbl := og_mc5 188 rfl rfl
theorem og_w1149 : Cond.fieldLink "OpenGravesModel" 245 "OpenGravesModel" "badPlace" "I" ∈ og_tbl := og_mc5 189 rfl rfl
theorem og_w1150 : Cond.fieldLink "OpenGravesModel" 366 "OpenGravesModel" "fault" "I" ∈ og_tbl := og_mc5 190 rfl rfl
theorem og_w1151 : Cond.fieldLink "OpenGravesModel" 13 "OpenGravesModel" "faultPlace" "I" ∈ og_tbl := og_mc5 191 rfl rfl
theorem og_w1152 : Cond.fieldLink "OpenGravesModel" 17 "OpenGravesModel" "refused" "[I" ∈ og_tbl := og_mc5 192 rfl rfl
theorem og_w1153 : Cond.fieldLink "OpenGravesModel" 282 "OpenGravesModel" "numberPlace" "I" ∈ og_tbl := og_mc5 193 rfl rfl
theorem og_w1154 : Cond.fieldLink "OpenGravesModel" 20 "OpenGravesModel" "graveWord" "[C" ∈ og_tbl := og_mc5 194 rfl rfl
theorem og_w1155 : Cond.fieldLink "OpenGravesModel" 24 "OpenGravesModel" "longWord" "[C" ∈ og_tbl := og_mc5 195 rfl rfl
theorem og_w1156 : Cond.fieldLink "OpenGravesModel" 27 "OpenGravesModel" "deepWord" "[C" ∈ og_tbl := og_mc5 196 rfl rfl
theorem og_w1157 : Cond.fieldLink "OpenGravesModel" 30 "OpenGravesModel" "dueWord" "[C" ∈ og_tbl := og_mc5 197 rfl rfl
theorem og_w1158 : Cond.fieldLink "OpenGravesModel" 33 "OpenGravesModel" "personWord" "[C" ∈ og_tbl := og_mc5 198 rfl rfl
theorem og_w1159 : Cond.fieldLink "OpenGravesModel" 36 "OpenGravesModel" "tallWord" "[C" ∈ og_tbl := og_mc5 199 rfl rfl
theorem og_w1160 : Cond.fieldLink "OpenGravesModel" 39 "OpenGravesModel" "ageWord" "[C" ∈ og_tbl := og_mc5 200 rfl rfl
set_option maxRecDepth 8000 in
theorem og_w1161 : Cond.fieldLink "OpenGravesModel" 42 "OpenGravesModel" "willWord" "[C" ∈ og_tbl := og_mc5 201 rfl rfl
set_option maxRecDepth 8000 in
theorem og_w1162 : Cond.fieldLink "OpenGravesModel" 45 "OpenGravesModel" "diesWord" "[C" ∈ og_tbl := og_mc5 202 rfl rfl
set_option maxRecDepth 8000 in
theorem og_w1163 : Cond.fieldLink "OpenGravesModel" 48 "OpenGravesModel" "comesWord" "[C" ∈ og_tbl := og_mc5 203 rfl rfl
set_option maxRecDepth 8000 in
theorem og_w1164 : Cond.fieldLink "OpenGravesModel" 51 "OpenGravesModel" "takesWord" "[C" ∈ og_tbl := og_mc5 204 rfl rfl
set_option maxRecDepth 8000 in
theorem og_w1165 : Cond.fieldLink "OpenGravesModel" 54 "OpenGravesModel" "heartWord" "[C" ∈ og_tbl := og_mc5 205 rfl rfl
set_option maxRecDepth 8000 in
theorem og_w1166 : Cond.fieldLink "OpenGravesModel" 57 "OpenGravesModel" "harmWord" "[C" ∈ og_tbl := og_mc5 206 rfl rfl
set_option maxRecDepth 8000 in
theorem og_w1167 : Cond.fieldLink "OpenGravesModel" 60 "OpenGravesModel" "monthWord" "[C" ∈ og_tbl := og_mc5 207 rfl rfl
set_option maxRecDepth 8000 in
theorem og_w1168 : Cond.fieldLink "OpenGravesModel" 63 "OpenGravesModel" "askedWord" "[C" ∈ og_tbl := og_mc5 208 rfl rfl
set_option maxRecDepth 8000 in
theorem og_w1169 : Cond.fieldLink "OpenGravesModel" 66 "OpenGravesModel" "takenWord" "[C" ∈ og_tbl := og_mc5 209 rfl rfl
set_option maxRecDepth 8000 in
theorem og_w1170 : Cond.fieldLink "OpenGravesModel" 69 "OpenGravesModel" "numberWord" "[C" ∈ og_tbl := og_mc5 210 rfl rfl
set_option maxRecDepth 8000 in
theorem og_w1171 : Cond.fieldLink "OpenGravesModel" 72 "OpenGravesModel" "aliveWord" "[C" ∈ og_tbl := og_mc5 211 rfl rfl
set_option maxRecDepth 8000 in
theorem og_w1172 : Cond.fieldLink "OpenGravesModel" 75 "OpenGravesModel" "fitsWord" "[C" ∈ og_tbl := og_mc5 212 rfl rfl
set_option maxRecDepth 8000 in
theorem og_w1173 : Cond.fieldLink "OpenGravesModel" 78 "OpenGravesModel" "orWord" "[C" ∈ og_tbl := og_mc5 213 rfl rfl
set_option maxRecDepth 8000 in
theorem og_w1174 : Cond.fieldLink "OpenGravesModel" 81 "OpenGravesModel" "andWord" "[C" ∈ og_tbl := og_mc5 214 rfl rfl
set_option maxRecDepth 8000 in
theorem og_w1175 : Cond.fieldLink "OpenGravesModel" 84 "OpenGravesModel" "notWord" "[C" ∈ og_tbl := og_mc5 215 rfl rfl
set_option maxRecDepth 8000 in
theorem og_w1176 : Cond.fieldLink "OpenGravesModel" 87 "OpenGravesModel" "allWord" "[C" ∈ og_tbl := og_mc5 216 rfl rfl
set_option maxRecDepth 8000 in
theorem og_w1177 : Cond.fieldLink "OpenGravesModel" 90 "OpenGravesModel" "minWord" "[C" ∈ og_tbl := og_mc5 217 rfl rfl
set_option maxRecDepth 8000 in
theorem og_w1178 : Cond.fieldLink "OpenGravesModel" 93 "OpenGravesModel" "maxWord" "[C" ∈ og_tbl := og_mc5 218 rfl rfl
set_option maxRecDepth 8000 in
theorem og_w1179 : Cond.fieldLink "OpenGravesModel" 293 "OpenGravesModel" "namePlace" "I" ∈ og_tbl := og_mc5 219 rfl rfl
set_option maxRecDepth 8000 in
theorem og_w1180 : Cond.fieldLink "OpenGravesModel" 96 "OpenGravesModel" "many" "[I" ∈ og_tbl := og_mc5 220 rfl rfl
set_option maxRecDepth 8000 in
theorem og_w1181 : Cond.fieldLink "OpenGravesModel" 99 "OpenGravesModel" "names" "[J" ∈ og_tbl := og_mc5 221 rfl rfl
set_option maxRecDepth 8000 in
theorem og_w1182 : Cond.fieldLink "OpenGravesModel" 103 "OpenGravesModel" "longs" "[I" ∈ og_tbl := og_mc5 222 rfl rfl
set_option maxRecDepth 8000 in
theorem og_w1183 : Cond.fieldLink "OpenGravesModel" 106 "OpenGravesModel" "talls" "[I" ∈ og_tbl := og_mc5 223 rfl rfl
set_option maxRecDepth 8000 in
theorem og_w1184 : Cond.fieldLink "OpenGravesModel" 109 "OpenGravesModel" "graves0" "[I" ∈ og_tbl := og_mc5 224 rfl rfl
set_option maxRecDepth 8000 in
theorem og_w1185 : Cond.fieldLink "OpenGravesModel" 112 "OpenGravesModel" "people0" "[I" ∈ og_tbl := og_mc5 225 rfl rfl
set_option maxRecDepth 8000 in
theorem og_w1186 : Cond.fieldLink "OpenGravesModel" 115 "OpenGravesModel" "codeFrom" "[I" ∈ og_tbl := og_mc5 226 rfl rfl
set_option maxRecDepth 8000 in
theorem og_w1187 : Cond.fieldLink "OpenGravesModel" 118 "OpenGravesModel" "codeEnd" "[I" ∈ og_tbl := og_mc5 227 rfl rfl
set_option maxRecDepth 8000 in
theorem og_w1188 : Cond.fieldLink "OpenGravesModel" 121 "OpenGravesModel" "codes" "[I" ∈ og_tbl := og_mc5 228 rfl rfl
set_option maxRecDepth 8000 in
theorem og_w1189 : Cond.fieldLink "OpenGravesModel" 344 "OpenGravesModel" "coded" "I" ∈ og_tbl := og_mc5 229 rfl rfl
set_option maxRecDepth 8000 in
theorem og_w1190 : Cond.fieldLink "OpenGravesModel" 360 "OpenGravesModel" "statements" "I" ∈ og_tbl := og_mc5 230 rfl rfl
set_option maxRecDepth 8000 in
theorem og_w1191 : Cond.fieldLink "OpenGravesModel" 300 "OpenGravesModel" "textKind" "I" ∈ og_tbl := og_mc5 231 rfl rfl
set_option maxRecDepth 8000 in
theorem og_w1192 : Cond.fieldLink "OpenGravesModel" 124 "OpenGravesModel" "now" "[I" ∈ og_tbl := og_mc5 232 rfl rfl
set_option maxRecDepth 8000 in
theorem og_w1193 : Cond.fieldLink "OpenGravesModel" 127 "OpenGravesModel" "aside" "[I" ∈ og_tbl := og_mc5 233 rfl rfl
set_option maxRecDepth 8000 in
theorem og_w1194 : Cond.fieldLink "OpenGravesModel" 396 "OpenGravesModel" "askPerson" "I" ∈ og_tbl := og_mc5 234 rfl rfl
set_option maxRecDepth 8000 in
theorem og_w1195 : Cond.fieldLink "OpenGravesModel" 456 "OpenGravesModel" "takenNow" "I" ∈ og_tbl := og_mc5 235 rfl rfl
set_option maxRecDepth 8000 in
theorem og_w1196 : Cond.fieldLink "OpenGravesModel" 438 "OpenGravesModel" "isThought" "Z" ∈ og_tbl := og_mc5 236 rfl rfl
set_option maxRecDepth 8000 in
theorem og_w1197 : Cond.fieldLink "OpenGravesModel" 465 "OpenGravesModel" "takenMany" "I" ∈ og_tbl := og_mc5 237 rfl rfl
set_option maxRecDepth 8000 in
theorem og_w1198 : Cond.fieldLink "OpenGravesModel" 130 "OpenGravesModel" "rowMost" "[I" ∈ og_tbl := og_mc5 238 rfl rfl
set_option maxRecDepth 8000 in
theorem og_w1199 : Cond.fieldLink "OpenGravesModel" 133 "OpenGravesModel" "rowHarm" "[I" ∈ og_tbl := og_mc5 239 rfl rfl
theorem og_w1200 : Cond.fieldLink "OpenGravesModel" 136 "OpenGravesModel" "harms" "[I" ∈ og_tbl := og_mc6 0 rfl rfl
theorem og_w1201 : Cond.fieldLink "OpenGravesModel" 139 "OpenGravesModel" "digs" "[I" ∈ og_tbl := og_mc6 1 rfl rfl
theorem og_w1202 : Cond.fieldLink "OpenGravesModel" 142 "OpenGravesModel" "bestDigs" "[I" ∈ og_tbl := og_mc6 2 rfl rfl
theorem og_w1203 : Cond.fieldLink "OpenGravesModel" 145 "OpenGravesModel" "deaths" "[I" ∈ og_tbl := og_mc6 3 rfl rfl
theorem og_w1204 : Cond.fieldLink "OpenGravesModel" 375 "OpenGravesModel" "rowMany" "I" ∈ og_tbl := og_mc6 4 rfl rfl
theorem og_w1205 : Cond.fieldLink "OpenGravesModel" 148 "OpenGravesModel" "rows" "[I" ∈ og_tbl := og_mc6 5 rfl rfl
theorem og_w1206 : Cond.fieldLink "OpenGravesModel" 151 "OpenGravesModel" "fillings" "[I" ∈ og_tbl := og_mc6 6 rfl rfl
theorem og_w1207 : Cond.fieldLink "OpenGravesModel" 154 "OpenGravesModel" "kept0" "[I" ∈ og_tbl := og_mc6 7 rfl rfl
theorem og_w1208 : Cond.fieldLink "OpenGravesModel" 372 "OpenGravesModel" "undoable" "I" ∈ og_tbl := og_mc6 8 rfl rfl
theorem og_w1209 : Cond.fieldLink "OpenGravesModel" 568 "OpenGravesModel" "newest" "I" ∈ og_tbl := og_mc6 9 rfl rfl
theorem og_w1210 : Cond.fieldLink "OpenGravesModel" 157 "OpenGravesModel" "seeded" "J" ∈ og_tbl := og_mc6 10 rfl rfl
theorem og_w1211 : Cond.fieldLink "OpenGravesModel" 161 "OpenGravesModel" "firstAsked" "[C" ∈ og_tbl := og_mc6 11 rfl rfl
theorem og_w1212 : Cond.fieldLink "OpenGravesModel" 164 "OpenGravesModel" "lastAsked" "[C" ∈ og_tbl := og_mc6 12 rfl rfl
theorem og_w1213 : Cond.fieldLink "OpenGravesModel" 167 "OpenGravesModel" "oftenAsked" "[C" ∈ og_tbl := og_mc6 13 rfl rfl
theorem og_w1214 : Cond.fieldLink "OpenGravesModel" 170 "OpenGravesModel" "totalAsked" "[C" ∈ og_tbl := og_mc6 14 rfl rfl
theorem og_w1215 : Cond.fieldLink "OpenGravesModel" 173 "OpenGravesModel" "mostAsked" "[C" ∈ og_tbl := og_mc6 15 rfl rfl
theorem og_w1216 : Cond.fieldLink "OpenGravesModel" 176 "OpenGravesModel" "leastAsked" "[C" ∈ og_tbl := og_mc6 16 rfl rfl
theorem og_w1217 : Cond.fieldLink "OpenGravesModel" 179 "OpenGravesModel" "notAsked" "[C" ∈ og_tbl := og_mc6 17 rfl rfl
theorem og_w1218 : Cond.fieldLink "OpenGravesModel" 182 "OpenGravesModel" "andAsked" "[C" ∈ og_tbl := og_mc6 18 rfl rfl
theorem og_w1219 : Cond.fieldLink "OpenGravesModel" 185 "OpenGravesModel" "orAsked" "[C" ∈ og_tbl := og_mc6 19 rfl rfl
theorem og_w1220 : Cond.fieldLink "OpenGravesModel" 188 "OpenGravesModel" "allAsked" "[C" ∈ og_tbl := og_mc6 20 rfl rfl
theorem og_w1221 : Cond.fieldLink "OpenGravesModel" 191 "OpenGravesModel" "minAsked" "[C" ∈ og_tbl := og_mc6 21 rfl rfl
theorem og_w1222 : Cond.fieldLink "OpenGravesModel" 194 "OpenGravesModel" "maxAsked" "[C" ∈ og_tbl := og_mc6 22 rfl rfl
theorem og_w1223 : Cond.fieldLink "OpenGravesModel" 197 "OpenGravesModel" "ageAsked" "[C" ∈ og_tbl := og_mc6 23 rfl rfl
theorem og_w1224 : Cond.fieldLink "OpenGravesModel" 200 "OpenGravesModel" "tallAsked" "[C" ∈ og_tbl := og_mc6 24 rfl rfl
theorem og_w1225 : Cond.fieldLink "OpenGravesModel" 203 "OpenGravesModel" "willAsked" "[C" ∈ og_tbl := og_mc6 25 rfl rfl
theorem og_w1226 : Cond.fieldLink "OpenGravesModel" 206 "OpenGravesModel" "monthAsked" "[C" ∈ og_tbl := og_mc6 26 rfl rfl
theorem og_w1227 : Cond.fieldLink "OpenGravesModel" 209 "OpenGravesModel" "askedAsked" "[C" ∈ og_tbl := og_mc6 27 rfl rfl
theorem og_w1228 : Cond.fieldLink "OpenGravesModel" 212 "OpenGravesModel" "takenAsked" "[C" ∈ og_tbl := og_mc6 28 rfl rfl
theorem og_w1229 : Cond.fieldLink "OpenGravesModel" 215 "OpenGravesModel" "numberAsked" "[C" ∈ og_tbl := og_mc6 29 rfl rfl
theorem og_w1230 : Cond.fieldLink "OpenGravesModel" 218 "OpenGravesModel" "aliveAsked" "[C" ∈ og_tbl := og_mc6 30 rfl rfl
theorem og_w1231 : Cond.fieldLink "OpenGravesModel" 221 "OpenGravesModel" "fitsAsked" "[C" ∈ og_tbl := og_mc6 31 rfl rfl
theorem og_w1232 : Cond.fieldLink "OpenGravesModel" 224 "OpenGravesModel" "dueofAsked" "[C" ∈ og_tbl := og_mc6 32 rfl rfl
theorem og_w1233 : Cond.fieldLink "OpenGravesModel" 227 "OpenGravesModel" "qCodes" "[I" ∈ og_tbl := og_mc6 33 rfl rfl
theorem og_w1234 : Cond.fieldLink "OpenGravesModel" 326 "OpenGravesModel" "qCoded" "I" ∈ og_tbl := og_mc6 34 rfl rfl
theorem og_w1235 : Cond.fieldLink "OpenGravesModel" 230 "OpenGravesModel" "qWait" "[I" ∈ og_tbl := og_mc6 35 rfl rfl
theorem og_w1236 : Cond.fieldLink "OpenGravesModel" 329 "OpenGravesModel" "qWaits" "I" ∈ og_tbl := og_mc6 36 rfl rfl
theorem og_w1237 : Cond.fieldLink "OpenGravesModel" 332 "OpenGravesModel" "qOpened" "I" ∈ og_tbl := og_mc6 37 rfl rfl
theorem og_w1238 : Cond.fieldLink "OpenGravesModel" 335 "OpenGravesModel" "qBase" "I" ∈ og_tbl := og_mc6 38 rfl rfl
theorem og_w1239 : Cond.fieldLink "OpenGravesModel" 233 "OpenGravesModel" "qPile" "[J" ∈ og_tbl := og_mc6 39 rfl rfl
theorem og_w1240 : Cond.fieldLink "OpenGravesModel" 399 "OpenGravesModel" "qPiled" "I" ∈ og_tbl := og_mc6 40 rfl rfl
theorem og_w1241 : Cond.fieldLink "OpenGravesModel" 658 "OpenGravesModel" "qAnswer" "J" ∈ og_tbl := og_mc6 41 rfl rfl
theorem og_w1242 : Cond.fieldLink "OpenGravesModel" 661 "OpenGravesModel" "qIsNew" "Z" ∈ og_tbl := og_mc6 42 rfl rfl
theorem og_w1243 : Cond.fieldLink "OpenGravesModel" 236 "OpenGravesModel" "octet" "[I" ∈ og_tbl := og_mc6 43 rfl rfl
theorem og_w1244 : Cond.fieldLink "OpenGravesModel" 674 "OpenGravesModel" "octets" "I" ∈ og_tbl := og_mc6 44 rfl rfl
theorem og_w1453 : Cond.instanceMethod ⟨"OpenGravesModel", "feed", "(IIIII)I"⟩ ∈ og_tbl := og_mc7 13 rfl rfl
theorem og_w1454 : Cond.selects "OpenGravesModel" ⟨"OpenGravesModel", "feed", "(IIIII)I"⟩ ⟨"OpenGravesModel", "feed", "(IIIII)I"⟩ ∈ og_tbl := og_mc7 14 rfl rfl
theorem og_w1455 : Cond.code ⟨"OpenGravesModel", "feed", "(IIIII)I"⟩ prog_14_method_4_code 8 (some .int) ∈ og_tbl := og_mc7 15 rfl rfl
theorem og_w1457 : Cond.instanceMethod ⟨"OpenGravesModel", "end", "(I)Z"⟩ ∈ og_tbl := og_mc7 17 rfl rfl
theorem og_w1458 : Cond.selects "OpenGravesModel" ⟨"OpenGravesModel", "end", "(I)Z"⟩ ⟨"OpenGravesModel", "end", "(I)Z"⟩ ∈ og_tbl := og_mc7 18 rfl rfl
theorem og_w1459 : Cond.code ⟨"OpenGravesModel", "end", "(I)Z"⟩ prog_14_method_5_code 2 (some .boolean) ∈ og_tbl := og_mc7 19 rfl rfl
theorem og_w1461 : Cond.instanceMethod ⟨"OpenGravesModel", "parish", "()I"⟩ ∈ og_tbl := og_mc7 21 rfl rfl
theorem og_w1462 : Cond.selects "OpenGravesModel" ⟨"OpenGravesModel", "parish", "()I"⟩ ⟨"OpenGravesModel", "parish", "()I"⟩ ∈ og_tbl := og_mc7 22 rfl rfl
theorem og_w1463 : Cond.code ⟨"OpenGravesModel", "parish", "()I"⟩ prog_14_method_26_code 2 (some .int) ∈ og_tbl := og_mc7 23 rfl rfl
theorem og_w1464 : Cond.methodLink "OpenGravesModel" 254 ⟨"OpenGravesModel", "look", "()I"⟩ ∈ og_tbl := og_mc7 24 rfl rfl
theorem og_w1466 : Cond.instanceMethod ⟨"OpenGravesModel", "look", "()I"⟩ ∈ og_tbl := og_mc7 26 rfl rfl
theorem og_w1467 : Cond.code ⟨"OpenGravesModel", "look", "()I"⟩ prog_14_method_9_code 1 (some .int) ∈ og_tbl := og_mc7 27 rfl rfl
theorem og_w1468 : Cond.methodLink "OpenGravesModel" 363 ⟨"OpenGravesModel", "statementTold", "()V"⟩ ∈ og_tbl := og_mc7 28 rfl rfl
theorem og_w1470 : Cond.instanceMethod ⟨"OpenGravesModel", "statementTold", "()V"⟩ ∈ og_tbl := og_mc7 30 rfl rfl
theorem og_w1471 : Cond.code ⟨"OpenGravesModel", "statementTold", "()V"⟩ prog_14_method_25_code 2 none ∈ og_tbl := og_mc7 31 rfl rfl
theorem og_w1472 : Cond.methodLink "OpenGravesModel" 269 ⟨"OpenGravesModel", "takes", "([C)Z"⟩ ∈ og_tbl := og_mc7 32 rfl rfl
theorem og_w1474 : Cond.instanceMethod ⟨"OpenGravesModel", "takes", "([C)Z"⟩ ∈ og_tbl := og_mc7 34 rfl rfl
theorem og_w1475 : Cond.code ⟨"OpenGravesModel", "takes", "([C)Z"⟩ prog_14_method_11_code 2 (some .boolean) ∈ og_tbl := og_mc7 35 rfl rfl
theorem og_w1476 : Cond.methodLink "OpenGravesModel" 265 ⟨"OpenGravesModel", "isHere", "([C)Z"⟩ ∈ og_tbl := og_mc7 36 rfl rfl
theorem og_w1478 : Cond.instanceMethod ⟨"OpenGravesModel", "isHere", "([C)Z"⟩ ∈ og_tbl := og_mc7 38 rfl rfl
theorem og_w1479 : Cond.code ⟨"OpenGravesModel", "isHere", "([C)Z"⟩ prog_14_method_10_code 4 (some .boolean) ∈ og_tbl := og_mc7 39 rfl rfl
theorem og_w1480 : Cond.methodLink "OpenGravesModel" 258 ⟨"OpenGravesModel", "isLetter", "(I)Z"⟩ ∈ og_tbl := og_mc7 40 rfl rfl
theorem og_w1481 : Cond.static ⟨"OpenGravesModel", "isLetter", "(I)Z"⟩ ∈ og_tbl := og_mc7 41 rfl rfl
theorem og_w1482 : Cond.code ⟨"OpenGravesModel", "isLetter", "(I)Z"⟩ prog_14_method_7_code 1 (some .boolean) ∈ og_tbl := og_mc7 42 rfl rfl
theorem og_w1483 : Cond.methodLink "OpenGravesModel" 347 ⟨"OpenGravesModel", "graveTold", "(I)V"⟩ ∈ og_tbl := og_mc7 43 rfl rfl
theorem og_w1485 : Cond.instanceMethod ⟨"OpenGravesModel", "graveTold", "(I)V"⟩ ∈ og_tbl := og_mc7 45 rfl rfl
theorem og_w1486 : Cond.code ⟨"OpenGravesModel", "graveTold", "(I)V"⟩ prog_14_method_22_code 8 none ∈ og_tbl := og_mc7 46 rfl rfl
theorem og_w1487 : Cond.methodLink "OpenGravesModel" 307 ⟨"OpenGravesModel", "isFull", "(III)Z"⟩ ∈ og_tbl := og_mc7 47 rfl rfl
theorem og_w1489 : Cond.instanceMethod ⟨"OpenGravesModel", "isFull", "(III)Z"⟩ ∈ og_tbl := og_mc7 49 rfl rfl
theorem og_w1490 : Cond.code ⟨"OpenGravesModel", "isFull", "(III)Z"⟩ prog_14_method_20_code 4 (some .boolean) ∈ og_tbl := og_mc7 50 rfl rfl
theorem og_w1491 : Cond.methodLink "OpenGravesModel" 272 ⟨"OpenGravesModel", "fail", "(II)V"⟩ ∈ og_tbl := og_mc7 51 rfl rfl
theorem og_w1493 : Cond.instanceMethod ⟨"OpenGravesModel", "fail", "(II)V"⟩ ∈ og_tbl := og_mc7 53 rfl rfl
theorem og_w1494 : Cond.code ⟨"OpenGravesModel", "fail", "(II)V"⟩ prog_14_method_6_code 3 none ∈ og_tbl := og_mc7 54 rfl rfl
theorem og_w1495 : Cond.methodLink "OpenGravesModel" 311 ⟨"OpenGravesModel", "newName", "()J"⟩ ∈ og_tbl := og_mc7 55 rfl rfl
theorem og_w1497 : Cond.instanceMethod ⟨"OpenGravesModel", "newName", "()J"⟩ ∈ og_tbl := og_mc7 57 rfl rfl
theorem og_w1498 : Cond.code ⟨"OpenGravesModel", "newName", "()J"⟩ prog_14_method_21_code 5 (some .long) ∈ og_tbl := og_mc7 58 rfl rfl
theorem og_w1499 : Cond.methodLink "OpenGravesModel" 303 ⟨"OpenGravesModel", "name", "()J"⟩ ∈ og_tbl := og_mc7 59 rfl rfl
theorem og_w1501 : Cond.instanceMethod ⟨"OpenGravesModel", "name", "()J"⟩ ∈ og_tbl := og_mc7 61 rfl rfl
theorem og_w1502 : Cond.code ⟨"OpenGravesModel", "name", "()J"⟩ prog_14_method_17_code 3 (some .long) ∈ og_tbl := og_mc7 62 rfl rfl
theorem og_w1503 : Cond.methodLink "OpenGravesModel" 289 ⟨"OpenGravesModel", "isOwnHere", "()Z"⟩ ∈ og_tbl := og_mc7 63 rfl rfl
theorem og_w1505 : Cond.instanceMethod ⟨"OpenGravesModel", "isOwnHere", "()Z"⟩ ∈ og_tbl := og_mc7 65 rfl rfl
theorem og_w1506 : Cond.code ⟨"OpenGravesModel", "isOwnHere", "()Z"⟩ prog_14_method_16_code 2 (some .boolean) ∈ og_tbl := og_mc7 66 rfl rfl
theorem og_w1507 : Cond.constantLong "OpenGravesModel" 296 (27 : Int64) ∈ og_tbl := og_mc7 67 rfl rfl
theorem og_w1508 : Cond.constantLong "OpenGravesModel" 298 (97 : Int64) ∈ og_tbl := og_mc7 68 rfl rfl
theorem og_w1509 : Cond.methodLink "OpenGravesModel" 314 ⟨"OpenGravesModel", "asks", "([C)V"⟩ ∈ og_tbl := og_mc7 69 rfl rfl
theorem og_w1511 : Cond.instanceMethod ⟨"OpenGravesModel", "asks", "([C)V"⟩ ∈ og_tbl := og_mc7 71 rfl rfl
theorem og_w1512 : Cond.code ⟨"OpenGravesModel", "asks", "([C)V"⟩ prog_14_method_12_code 2 none ∈ og_tbl := og_mc7 72 rfl rfl
theorem og_w1513 : Cond.methodLink "OpenGravesModel" 318 ⟨"OpenGravesModel", "number", "(II)I"⟩ ∈ og_tbl := og_mc7 73 rfl rfl
theorem og_w1515 : Cond.instanceMethod ⟨"OpenGravesModel", "number", "(II)I"⟩ ∈ og_tbl := og_mc7 75 rfl rfl
theorem og_w1516 : Cond.code ⟨"OpenGravesModel", "number", "(II)I"⟩ prog_14_method_15_code 5 (some .int) ∈ og_tbl := og_mc7 76 rfl rfl
theorem og_w1517 : Cond.methodLink "OpenGravesModel" 279 ⟨"OpenGravesModel", "isDigit", "(I)Z"⟩ ∈ og_tbl := og_mc7 77 rfl rfl
theorem og_w1518 : Cond.static ⟨"OpenGravesModel", "isDigit", "(I)Z"⟩ ∈ og_tbl := og_mc7 78 rfl rfl
theorem og_w1519 : Cond.code ⟨"OpenGravesModel", "isDigit", "(I)Z"⟩ prog_14_method_8_code 1 (some .boolean) ∈ og_tbl := og_mc7 79 rfl rfl
theorem og_w1520 : Cond.methodLink "OpenGravesModel" 285 ⟨"OpenGravesModel", "isIn", "(JJJ)Z"⟩ ∈ og_tbl := og_mc7 80 rfl rfl
theorem og_w1521 : Cond.static ⟨"OpenGravesModel", "isIn", "(JJJ)Z"⟩ ∈ og_tbl := og_mc7 81 rfl rfl
theorem og_w1522 : Cond.code ⟨"OpenGravesModel", "isIn", "(JJJ)Z"⟩ prog_14_method_2_code 6 (some .boolean) ∈ og_tbl := og_mc7 82 rfl rfl
theorem og_w1523 : Cond.methodLink "OpenGravesModel" 351 ⟨"OpenGravesModel", "personTold", "(I)V"⟩ ∈ og_tbl := og_mc7 83 rfl rfl
theorem og_w1525 : Cond.instanceMethod ⟨"OpenGravesModel", "personTold", "(I)V"⟩ ∈ og_tbl := og_mc7 85 rfl rfl
theorem og_w1526 : Cond.code ⟨"OpenGravesModel", "personTold", "(I)V"⟩ prog_14_method_23_code 8 none ∈ og_tbl := og_mc7 86 rfl rfl
theorem og_w1527 : Cond.methodLink "OpenGravesModel" 354 ⟨"OpenGravesModel", "codesTold", "(II)V"⟩ ∈ og_tbl := og_mc7 87 rfl rfl
theorem og_w1529 : Cond.instanceMethod ⟨"OpenGravesModel", "codesTold", "(II)V"⟩ ∈ og_tbl := og_mc7 89 rfl rfl
theorem og_w1530 : Cond.code ⟨"OpenGravesModel", "codesTold", "(II)V"⟩ prog_14_method_24_code 4 none ∈ og_tbl := og_mc7 90 rfl rfl
theorem og_w1531 : Cond.methodLink "OpenGravesModel" 322 ⟨"OpenGravesModel", "kindOf", "(I)I"⟩ ∈ og_tbl := og_mc7 91 rfl rfl
theorem og_w1532 : Cond.static ⟨"OpenGravesModel", "kindOf", "(I)I"⟩ ∈ og_tbl := og_mc7 92 rfl rfl
theorem og_w1533 : Cond.code ⟨"OpenGravesModel", "kindOf", "(I)I"⟩ prog_14_method_18_code 1 (some .int) ∈ og_tbl := og_mc7 93 rfl rfl
theorem og_w1534 : Cond.methodLink "OpenGravesModel" 338 ⟨"OpenGravesModel", "qTest", "()V"⟩ ∈ og_tbl := og_mc7 94 rfl rfl
theorem og_w1536 : Cond.instanceMethod ⟨"OpenGravesModel", "qTest", "()V"⟩ ∈ og_tbl := og_mc7 96 rfl rfl
theorem og_w1537 : Cond.code ⟨"OpenGravesModel", "qTest", "()V"⟩ prog_14_method_119_code 3 none ∈ og_tbl := og_mc7 97 rfl rfl
theorem og_w1538 : Cond.methodLink "OpenGravesModel" 606 ⟨"OpenGravesModel", "qOpens", "(II)V"⟩ ∈ og_tbl := og_mc7 98 rfl rfl
theorem og_w1540 : Cond.instanceMethod ⟨"OpenGravesModel", "qOpens", "(II)V"⟩ ∈ og_tbl := og_mc7 100 rfl rfl
theorem og_w1541 : Cond.code ⟨"OpenGravesModel", "qOpens", "(II)V"⟩ prog_14_method_103_code 3 none ∈ og_tbl := og_mc7 101 rfl rfl
theorem og_w1542 : Cond.methodLink "OpenGravesModel" 630 ⟨"OpenGravesModel", "qFact", "()V"⟩ ∈ og_tbl := og_mc7 102 rfl rfl
theorem og_w1544 : Cond.instanceMethod ⟨"OpenGravesModel", "qFact", "()V"⟩ ∈ og_tbl := og_mc7 104 rfl rfl
theorem og_w1545 : Cond.code ⟨"OpenGravesModel", "qFact", "()V"⟩ prog_14_method_116_code 2 none ∈ og_tbl := og_mc7 105 rfl rfl
theorem og_w1546 : Cond.methodLink "OpenGravesModel" 588 ⟨"OpenGravesModel", "qCode", "(I)V"⟩ ∈ og_tbl := og_mc7 106 rfl rfl
theorem og_w1548 : Cond.instanceMethod ⟨"OpenGravesModel", "qCode", "(I)V"⟩ ∈ og_tbl := og_mc7 108 rfl rfl
theorem og_w1549 : Cond.code ⟨"OpenGravesModel", "qCode", "(I)V"⟩ prog_14_method_102_code 2 none ∈ og_tbl := og_mc7 109 rfl rfl
theorem og_w1550 : Cond.methodLink "OpenGravesModel" 341 ⟨"OpenGravesModel", "qSums", "()V"⟩ ∈ og_tbl := og_mc7 110 rfl rfl
theorem og_w1552 : Cond.instanceMethod ⟨"OpenGravesModel", "qSums", "()V"⟩ ∈ og_tbl := og_mc7 112 rfl rfl
theorem og_w1553 : Cond.code ⟨"OpenGravesModel", "qSums", "()V"⟩ prog_14_method_115_code 3 none ∈ og_tbl := og_mc7 113 rfl rfl
theorem og_w1554 : Cond.methodLink "OpenGravesModel" 624 ⟨"OpenGravesModel", "qPartTold", "()V"⟩ ∈ og_tbl := og_mc7 114 rfl rfl
theorem og_w1556 : Cond.instanceMethod ⟨"OpenGravesModel", "qPartTold", "()V"⟩ ∈ og_tbl := og_mc7 116 rfl rfl
theorem og_w1557 : Cond.code ⟨"OpenGravesModel", "qPartTold", "()V"⟩ prog_14_method_113_code 6 none ∈ og_tbl := og_mc7 117 rfl rfl
theorem og_w1558 : Cond.methodLink "OpenGravesModel" 603 ⟨"OpenGravesModel", "qWordOf", "(II)I"⟩ ∈ og_tbl := og_mc7 118 rfl rfl
theorem og_w1560 : Cond.instanceMethod ⟨"OpenGravesModel", "qWordOf", "(II)I"⟩ ∈ og_tbl := og_mc7 120 rfl rfl
theorem og_w1561 : Cond.code ⟨"OpenGravesModel", "qWordOf", "(II)I"⟩ prog_14_method_110_code 4 (some .int) ∈ og_tbl := og_mc7 121 rfl rfl
theorem og_w1562 : Cond.methodLink "OpenGravesModel" 597 ⟨"OpenGravesModel", "qWordHere", "()I"⟩ ∈ og_tbl := og_mc7 122 rfl rfl
theorem og_w1564 : Cond.instanceMethod ⟨"OpenGravesModel", "qWordHere", "()I"⟩ ∈ og_tbl := og_mc7 124 rfl rfl
theorem og_w1565 : Cond.code ⟨"OpenGravesModel", "qWordHere", "()I"⟩ prog_14_method_109_code 1 (some .int) ∈ og_tbl := og_mc7 125 rfl rfl
theorem og_w1566 : Cond.methodLink "OpenGravesModel" 600 ⟨"OpenGravesModel", "isAllowed", "(I)Z"⟩ ∈ og_tbl := og_mc7 126 rfl rfl
theorem og_w1568 : Cond.instanceMethod ⟨"OpenGravesModel", "isAllowed", "(I)Z"⟩ ∈ og_tbl := og_mc7 128 rfl rfl
theorem og_w1569 : Cond.code ⟨"OpenGravesModel", "isAllowed", "(I)Z"⟩ prog_14_method_19_code 2 (some .boolean) ∈ og_tbl := og_mc7 129 rfl rfl
theorem og_w1570 : Cond.methodLink "OpenGravesModel" 357 ⟨"OpenGravesModel", "asksSign", "(I)V"⟩ ∈ og_tbl := og_mc7 130 rfl rfl
theorem og_w1572 : Cond.instanceMethod ⟨"OpenGravesModel", "asksSign", "(I)V"⟩ ∈ og_tbl := og_mc7 132 rfl rfl
theorem og_w1573 : Cond.code ⟨"OpenGravesModel", "asksSign", "(I)V"⟩ prog_14_method_14_code 2 none ∈ og_tbl := og_mc7 133 rfl rfl
theorem og_w1574 : Cond.methodLink "OpenGravesModel" 276 ⟨"OpenGravesModel", "takesSign", "(I)Z"⟩ ∈ og_tbl := og_mc7 134 rfl rfl
theorem og_w1576 : Cond.instanceMethod ⟨"OpenGravesModel", "takesSign", "(I)Z"⟩ ∈ og_tbl := og_mc7 136 rfl rfl
theorem og_w1577 : Cond.code ⟨"OpenGravesModel", "takesSign", "(I)Z"⟩ prog_14_method_13_code 2 (some .boolean) ∈ og_tbl := og_mc7 137 rfl rfl
theorem og_w1578 : Cond.methodLink "OpenGravesModel" 609 ⟨"OpenGravesModel", "qAsksWord", "(I)V"⟩ ∈ og_tbl := og_mc7 138 rfl rfl
theorem og_w1580 : Cond.instanceMethod ⟨"OpenGravesModel", "qAsksWord", "(I)V"⟩ ∈ og_tbl := og_mc7 140 rfl rfl
theorem og_w1581 : Cond.code ⟨"OpenGravesModel", "qAsksWord", "(I)V"⟩ prog_14_method_111_code 2 none ∈ og_tbl := og_mc7 141 rfl rfl
theorem og_w1582 : Cond.methodLink "OpenGravesModel" 612 ⟨"OpenGravesModel", "qEndsPart", "()V"⟩ ∈ og_tbl := og_mc7 142 rfl rfl
theorem og_w1584 : Cond.instanceMethod ⟨"OpenGravesModel", "qEndsPart", "()V"⟩ ∈ og_tbl := og_mc7 144 rfl rfl
theorem og_w1585 : Cond.code ⟨"OpenGravesModel", "qEndsPart", "()V"⟩ prog_14_method_112_code 1 none ∈ og_tbl := og_mc7 145 rfl rfl
theorem og_w1586 : Cond.methodLink "OpenGravesModel" 594 ⟨"OpenGravesModel", "qDrops", "()V"⟩ ∈ og_tbl := og_mc7 146 rfl rfl
theorem og_w1588 : Cond.instanceMethod ⟨"OpenGravesModel", "qDrops", "()V"⟩ ∈ og_tbl := og_mc7 148 rfl rfl
theorem og_w1589 : Cond.code ⟨"OpenGravesModel", "qDrops", "()V"⟩ prog_14_method_105_code 1 none ∈ og_tbl := og_mc7 149 rfl rfl
theorem og_w1590 : Cond.methodLink "OpenGravesModel" 627 ⟨"OpenGravesModel", "qGoesOn", "()Z"⟩ ∈ og_tbl := og_mc7 150 rfl rfl
theorem og_w1592 : Cond.instanceMethod ⟨"OpenGravesModel", "qGoesOn", "()Z"⟩ ∈ og_tbl := og_mc7 152 rfl rfl
theorem og_w1593 : Cond.code ⟨"OpenGravesModel", "qGoesOn", "()Z"⟩ prog_14_method_114_code 2 (some .boolean) ∈ og_tbl := og_mc7 153 rfl rfl
theorem og_w1594 : Cond.methodLink "OpenGravesModel" 615 ⟨"OpenGravesModel", "qBracket", "()I"⟩ ∈ og_tbl := og_mc7 154 rfl rfl
theorem og_w1596 : Cond.instanceMethod ⟨"OpenGravesModel", "qBracket", "()I"⟩ ∈ og_tbl := og_mc7 156 rfl rfl
theorem og_w1597 : Cond.code ⟨"OpenGravesModel", "qBracket", "()I"⟩ prog_14_method_107_code 2 (some .int) ∈ og_tbl := og_mc7 157 rfl rfl
theorem og_w1598 : Cond.methodLink "OpenGravesModel" 591 ⟨"OpenGravesModel", "qIsBracket", "(I)Z"⟩ ∈ og_tbl := og_mc7 158 rfl rfl
theorem og_w1599 : Cond.static ⟨"OpenGravesModel", "qIsBracket", "(I)Z"⟩ ∈ og_tbl := og_mc7 159 rfl rfl
theorem og_w1600 : Cond.code ⟨"OpenGravesModel", "qIsBracket", "(I)Z"⟩ prog_14_method_106_code 1 (some .boolean) ∈ og_tbl := og_mc7 160 rfl rfl
theorem og_w1601 : Cond.methodLink "OpenGravesModel" 618 ⟨"OpenGravesModel", "qDropsToBracket", "()V"⟩ ∈ og_tbl := og_mc7 161 rfl rfl
theorem og_w1603 : Cond.instanceMethod ⟨"OpenGravesModel", "qDropsToBracket", "()V"⟩ ∈ og_tbl := og_mc7 163 rfl rfl
theorem og_w1604 : Cond.code ⟨"OpenGravesModel", "qDropsToBracket", "()V"⟩ prog_14_method_108_code 1 none ∈ og_tbl := og_mc7 164 rfl rfl
theorem og_w1605 : Cond.methodLink "OpenGravesModel" 621 ⟨"OpenGravesModel", "qIsOn", "(I)Z"⟩ ∈ og_tbl := og_mc7 165 rfl rfl
theorem og_w1607 : Cond.instanceMethod ⟨"OpenGravesModel", "qIsOn", "(I)Z"⟩ ∈ og_tbl := og_mc7 167 rfl rfl
theorem og_w1608 : Cond.code ⟨"OpenGravesModel", "qIsOn", "(I)Z"⟩ prog_14_method_104_code 2 (some .boolean) ∈ og_tbl := og_mc7 168 rfl rfl
theorem og_w1609 : Cond.methodLink "OpenGravesModel" 633 ⟨"OpenGravesModel", "qDropsNots", "()V"⟩ ∈ og_tbl := og_mc7 169 rfl rfl
theorem og_w1611 : Cond.instanceMethod ⟨"OpenGravesModel", "qDropsNots", "()V"⟩ ∈ og_tbl := og_mc7 171 rfl rfl
theorem og_w1612 : Cond.code ⟨"OpenGravesModel", "qDropsNots", "()V"⟩ prog_14_method_118_code 1 none ∈ og_tbl := og_mc7 172 rfl rfl
theorem og_w1613 : Cond.methodLink "OpenGravesModel" 636 ⟨"OpenGravesModel", "qGoesOnTest", "()Z"⟩ ∈ og_tbl := og_mc7 173 rfl rfl
theorem og_w1615 : Cond.instanceMethod ⟨"OpenGravesModel", "qGoesOnTest", "()Z"⟩ ∈ og_tbl := og_mc7 175 rfl rfl
theorem og_w1616 : Cond.code ⟨"OpenGravesModel", "qGoesOnTest", "()Z"⟩ prog_14_method_120_code 1 (some .boolean) ∈ og_tbl := og_mc7 176 rfl rfl
theorem og_w1617 : Cond.methodLink "OpenGravesModel" 639 ⟨"OpenGravesModel", "qHasSquare", "()Z"⟩ ∈ og_tbl := og_mc7 177 rfl rfl
theorem og_w1619 : Cond.instanceMethod ⟨"OpenGravesModel", "qHasSquare", "()Z"⟩ ∈ og_tbl := og_mc7 179 rfl rfl
theorem og_w1620 : Cond.code ⟨"OpenGravesModel", "qHasSquare", "()Z"⟩ prog_14_method_117_code 2 (some .boolean) ∈ og_tbl := og_mc7 180 rfl rfl
theorem og_w1621 : Cond.methodLink "OpenGravesModel" 369 ⟨"OpenGravesModel", "stands", "()V"⟩ ∈ og_tbl := og_mc7 181 rfl rfl
theorem og_w1623 : Cond.instanceMethod ⟨"OpenGravesModel", "stands", "()V"⟩ ∈ og_tbl := og_mc7 183 rfl rfl
theorem og_w1624 : Cond.code ⟨"OpenGravesModel", "stands", "()V"⟩ prog_14_method_27_code 2 none ∈ og_tbl := og_mc7 184 rfl rfl
theorem og_w1626 : Cond.instanceMethod ⟨"OpenGravesModel", "fault", "(I)I"⟩ ∈ og_tbl := og_mc7 186 rfl rfl
theorem og_w1627 : Cond.selects "OpenGravesModel" ⟨"OpenGravesModel", "fault", "(I)I"⟩ ⟨"OpenGravesModel", "fault", "(I)I"⟩ ∈ og_tbl := og_mc7 187 rfl rfl
theorem og_w1628 : Cond.code ⟨"OpenGravesModel", "fault", "(I)I"⟩ prog_14_method_28_code 2 (some .int) ∈ og_tbl := og_mc7 188 rfl rfl
theorem og_w1630 : Cond.instanceMethod ⟨"OpenGravesModel", "has", "(I)I"⟩ ∈ og_tbl := og_mc7 190 rfl rfl
theorem og_w1631 : Cond.selects "OpenGravesModel" ⟨"OpenGravesModel", "has", "(I)I"⟩ ⟨"OpenGravesModel", "has", "(I)I"⟩ ∈ og_tbl := og_mc7 191 rfl rfl
theorem og_w1632 : Cond.code ⟨"OpenGravesModel", "has", "(I)I"⟩ prog_14_method_60_code 2 (some .int) ∈ og_tbl := og_mc7 192 rfl rfl
theorem og_w1633 : Cond.methodLink "OpenGravesModel" 474 ⟨"OpenGravesModel", "aliveMany", "()I"⟩ ∈ og_tbl := og_mc7 193 rfl rfl
theorem og_w1635 : Cond.instanceMethod ⟨"OpenGravesModel", "aliveMany", "()I"⟩ ∈ og_tbl := og_mc7 195 rfl rfl
theorem og_w1636 : Cond.code ⟨"OpenGravesModel", "aliveMany", "()I"⟩ prog_14_method_42_code 3 (some .int) ∈ og_tbl := og_mc7 196 rfl rfl
theorem og_w1637 : Cond.methodLink "OpenGravesModel" 381 ⟨"OpenGravesModel", "personMany", "()I"⟩ ∈ og_tbl := og_mc7 197 rfl rfl
theorem og_w1639 : Cond.instanceMethod ⟨"OpenGravesModel", "personMany", "()I"⟩ ∈ og_tbl := og_mc7 199 rfl rfl
theorem og_w1640 : Cond.code ⟨"OpenGravesModel", "personMany", "()I"⟩ prog_14_method_30_code 1 (some .int) ∈ og_tbl := og_mc7 200 rfl rfl
set_option maxRecDepth 8000 in
theorem og_w1641 : Cond.methodLink "OpenGravesModel" 393 ⟨"OpenGravesModel", "isAlive", "(I)Z"⟩ ∈ og_tbl := og_mc7 201 rfl rfl
set_option maxRecDepth 8000 in
theorem og_w1643 : Cond.instanceMethod ⟨"OpenGravesModel", "isAlive", "(I)Z"⟩ ∈ og_tbl := og_mc7 203 rfl rfl
set_option maxRecDepth 8000 in
theorem og_w1644 : Cond.code ⟨"OpenGravesModel", "isAlive", "(I)Z"⟩ prog_14_method_38_code 2 (some .boolean) ∈ og_tbl := og_mc7 204 rfl rfl
set_option maxRecDepth 8000 in
theorem og_w1645 : Cond.methodLink "OpenGravesModel" 477 ⟨"OpenGravesModel", "askingMany", "()I"⟩ ∈ og_tbl := og_mc7 205 rfl rfl
set_option maxRecDepth 8000 in
theorem og_w1647 : Cond.instanceMethod ⟨"OpenGravesModel", "askingMany", "()I"⟩ ∈ og_tbl := og_mc7 207 rfl rfl
set_option maxRecDepth 8000 in
theorem og_w1648 : Cond.code ⟨"OpenGravesModel", "askingMany", "()I"⟩ prog_14_method_37_code 3 (some .int) ∈ og_tbl := og_mc7 208 rfl rfl
set_option maxRecDepth 8000 in
theorem og_w1649 : Cond.methodLink "OpenGravesModel" 378 ⟨"OpenGravesModel", "graveMany", "()I"⟩ ∈ og_tbl := og_mc7 209 rfl rfl
set_option maxRecDepth 8000 in
theorem og_w1651 : Cond.instanceMethod ⟨"OpenGravesModel", "graveMany", "()I"⟩ ∈ og_tbl := og_mc7 211 rfl rfl
set_option maxRecDepth 8000 in
theorem og_w1652 : Cond.code ⟨"OpenGravesModel", "graveMany", "()I"⟩ prog_14_method_29_code 1 (some .int) ∈ og_tbl := og_mc7 212 rfl rfl
set_option maxRecDepth 8000 in
theorem og_w1653 : Cond.methodLink "OpenGravesModel" 390 ⟨"OpenGravesModel", "doesAsk", "(I)Z"⟩ ∈ og_tbl := og_mc7 213 rfl rfl
set_option maxRecDepth 8000 in
theorem og_w1655 : Cond.instanceMethod ⟨"OpenGravesModel", "doesAsk", "(I)Z"⟩ ∈ og_tbl := og_mc7 215 rfl rfl
set_option maxRecDepth 8000 in
theorem og_w1656 : Cond.code ⟨"OpenGravesModel", "doesAsk", "(I)Z"⟩ prog_14_method_36_code 2 (some .boolean) ∈ og_tbl := og_mc7 216 rfl rfl
set_option maxRecDepth 8000 in
theorem og_w1657 : Cond.methodLink "OpenGravesModel" 384 ⟨"OpenGravesModel", "deepOf", "(I)I"⟩ ∈ og_tbl := og_mc7 217 rfl rfl
set_option maxRecDepth 8000 in
theorem og_w1659 : Cond.instanceMethod ⟨"OpenGravesModel", "deepOf", "(I)I"⟩ ∈ og_tbl := og_mc7 219 rfl rfl
set_option maxRecDepth 8000 in
theorem og_w1660 : Cond.code ⟨"OpenGravesModel", "deepOf", "(I)I"⟩ prog_14_method_33_code 2 (some .int) ∈ og_tbl := og_mc7 220 rfl rfl
set_option maxRecDepth 8000 in
theorem og_w1661 : Cond.methodLink "OpenGravesModel" 387 ⟨"OpenGravesModel", "inGrave", "(I)I"⟩ ∈ og_tbl := og_mc7 221 rfl rfl
set_option maxRecDepth 8000 in
theorem og_w1663 : Cond.instanceMethod ⟨"OpenGravesModel", "inGrave", "(I)I"⟩ ∈ og_tbl := og_mc7 223 rfl rfl
set_option maxRecDepth 8000 in
theorem og_w1664 : Cond.code ⟨"OpenGravesModel", "inGrave", "(I)I"⟩ prog_14_method_35_code 2 (some .int) ∈ og_tbl := og_mc7 224 rfl rfl
set_option maxRecDepth 8000 in
theorem og_w1665 : Cond.methodLink "OpenGravesModel" 480 ⟨"OpenGravesModel", "filledMany", "()I"⟩ ∈ og_tbl := og_mc7 225 rfl rfl
set_option maxRecDepth 8000 in
theorem og_w1667 : Cond.instanceMethod ⟨"OpenGravesModel", "filledMany", "()I"⟩ ∈ og_tbl := og_mc7 227 rfl rfl
set_option maxRecDepth 8000 in
theorem og_w1668 : Cond.code ⟨"OpenGravesModel", "filledMany", "()I"⟩ prog_14_method_59_code 3 (some .int) ∈ og_tbl := og_mc7 228 rfl rfl
set_option maxRecDepth 8000 in
theorem og_w1670 : Cond.instanceMethod ⟨"OpenGravesModel", "letter", "(III)I"⟩ ∈ og_tbl := og_mc7 230 rfl rfl
set_option maxRecDepth 8000 in
theorem og_w1671 : Cond.selects "OpenGravesModel" ⟨"OpenGravesModel", "letter", "(III)I"⟩ ⟨"OpenGravesModel", "letter", "(III)I"⟩ ∈ og_tbl := og_mc7 231 rfl rfl
set_option maxRecDepth 8000 in
theorem og_w1672 : Cond.code ⟨"OpenGravesModel", "letter", "(III)I"⟩ prog_14_method_61_code 9 (some .int) ∈ og_tbl := og_mc7 232 rfl rfl
set_option maxRecDepth 8000 in
theorem og_w1673 : Cond.constantLong "OpenGravesModel" 483 (5 : Int64) ∈ og_tbl := og_mc7 233 rfl rfl
set_option maxRecDepth 8000 in
theorem og_w1675 : Cond.instanceMethod ⟨"OpenGravesModel", "grave", "(II)I"⟩ ∈ og_tbl := og_mc7 235 rfl rfl
set_option maxRecDepth 8000 in
theorem og_w1676 : Cond.selects "OpenGravesModel" ⟨"OpenGravesModel", "grave", "(II)I"⟩ ⟨"OpenGravesModel", "grave", "(II)I"⟩ ∈ og_tbl := og_mc7 236 rfl rfl
set_option maxRecDepth 8000 in
theorem og_w1677 : Cond.code ⟨"OpenGravesModel", "grave", "(II)I"⟩ prog_14_method_62_code 3 (some .int) ∈ og_tbl := og_mc7 237 rfl rfl
set_option maxRecDepth 8000 in
theorem og_w1678 : Cond.methodLink "OpenGravesModel" 485 ⟨"OpenGravesModel", "isGrave", "(J)Z"⟩ ∈ og_tbl := og_mc7 238 rfl rfl
theorem og_w1680 : Cond.instanceMethod ⟨"OpenGravesModel", "isGrave", "(J)Z"⟩ ∈ og_tbl := og_mc8 0 rfl rfl
theorem og_w1681 : Cond.code ⟨"OpenGravesModel", "isGrave", "(J)Z"⟩ prog_14_method_31_code 3 (some .boolean) ∈ og_tbl := og_mc8 1 rfl rfl
theorem og_w1682 : Cond.methodLink "OpenGravesModel" 435 ⟨"OpenGravesModel", "dueOf", "(I)I"⟩ ∈ og_tbl := og_mc8 2 rfl rfl
theorem og_w1684 : Cond.instanceMethod ⟨"OpenGravesModel", "dueOf", "(I)I"⟩ ∈ og_tbl := og_mc8 4 rfl rfl
theorem og_w1685 : Cond.code ⟨"OpenGravesModel", "dueOf", "(I)I"⟩ prog_14_method_34_code 2 (some .int) ∈ og_tbl := og_mc8 5 rfl rfl
theorem og_w1687 : Cond.instanceMethod ⟨"OpenGravesModel", "person", "(II)I"⟩ ∈ og_tbl := og_mc8 7 rfl rfl
theorem og_w1688 : Cond.selects "OpenGravesModel" ⟨"OpenGravesModel", "person", "(II)I"⟩ ⟨"OpenGravesModel", "person", "(II)I"⟩ ∈ og_tbl := og_mc8 8 rfl rfl
theorem og_w1689 : Cond.code ⟨"OpenGravesModel", "person", "(II)I"⟩ prog_14_method_63_code 3 (some .int) ∈ og_tbl := og_mc8 9 rfl rfl
theorem og_w1690 : Cond.methodLink "OpenGravesModel" 489 ⟨"OpenGravesModel", "isPerson", "(I)Z"⟩ ∈ og_tbl := og_mc8 10 rfl rfl
theorem og_w1692 : Cond.instanceMethod ⟨"OpenGravesModel", "isPerson", "(I)Z"⟩ ∈ og_tbl := og_mc8 12 rfl rfl
theorem og_w1693 : Cond.code ⟨"OpenGravesModel", "isPerson", "(I)Z"⟩ prog_14_method_32_code 2 (some .boolean) ∈ og_tbl := og_mc8 13 rfl rfl
theorem og_w1694 : Cond.methodLink "OpenGravesModel" 419 ⟨"OpenGravesModel", "ageOf", "(I)I"⟩ ∈ og_tbl := og_mc8 14 rfl rfl
theorem og_w1696 : Cond.instanceMethod ⟨"OpenGravesModel", "ageOf", "(I)I"⟩ ∈ og_tbl := og_mc8 16 rfl rfl
theorem og_w1697 : Cond.code ⟨"OpenGravesModel", "ageOf", "(I)I"⟩ prog_14_method_39_code 2 (some .int) ∈ og_tbl := og_mc8 17 rfl rfl
theorem og_w1698 : Cond.methodLink "OpenGravesModel" 426 ⟨"OpenGravesModel", "willOf", "(I)I"⟩ ∈ og_tbl := og_mc8 18 rfl rfl
theorem og_w1700 : Cond.instanceMethod ⟨"OpenGravesModel", "willOf", "(I)I"⟩ ∈ og_tbl := og_mc8 20 rfl rfl
theorem og_w1701 : Cond.code ⟨"OpenGravesModel", "willOf", "(I)I"⟩ prog_14_method_40_code 2 (some .int) ∈ og_tbl := og_mc8 21 rfl rfl
theorem og_w1703 : Cond.instanceMethod ⟨"OpenGravesModel", "counts", "(II)J"⟩ ∈ og_tbl := og_mc8 23 rfl rfl
theorem og_w1704 : Cond.selects "OpenGravesModel" ⟨"OpenGravesModel", "counts", "(II)J"⟩ ⟨"OpenGravesModel", "counts", "(II)J"⟩ ∈ og_tbl := og_mc8 24 rfl rfl
theorem og_w1705 : Cond.code ⟨"OpenGravesModel", "counts", "(II)J"⟩ prog_14_method_64_code 3 (some .long) ∈ og_tbl := og_mc8 25 rfl rfl
theorem og_w1706 : Cond.constantLong "OpenGravesModel" 492 (-1000000000000000 : Int64) ∈ og_tbl := og_mc8 26 rfl rfl
theorem og_w1707 : Cond.methodLink "OpenGravesModel" 494 ⟨"OpenGravesModel", "diesOf", "(I)I"⟩ ∈ og_tbl := og_mc8 27 rfl rfl
theorem og_w1709 : Cond.instanceMethod ⟨"OpenGravesModel", "diesOf", "(I)I"⟩ ∈ og_tbl := og_mc8 29 rfl rfl
theorem og_w1710 : Cond.code ⟨"OpenGravesModel", "diesOf", "(I)I"⟩ prog_14_method_45_code 2 (some .int) ∈ og_tbl := og_mc8 30 rfl rfl
theorem og_w1711 : Cond.methodLink "OpenGravesModel" 413 ⟨"OpenGravesModel", "isTold", "(I)Z"⟩ ∈ og_tbl := og_mc8 31 rfl rfl
theorem og_w1713 : Cond.instanceMethod ⟨"OpenGravesModel", "isTold", "(I)Z"⟩ ∈ og_tbl := og_mc8 33 rfl rfl
theorem og_w1714 : Cond.code ⟨"OpenGravesModel", "isTold", "(I)Z"⟩ prog_14_method_43_code 2 (some .boolean) ∈ og_tbl := og_mc8 34 rfl rfl
theorem og_w1715 : Cond.methodLink "OpenGravesModel" 416 ⟨"OpenGravesModel", "codesTell", "(II)J"⟩ ∈ og_tbl := og_mc8 35 rfl rfl
theorem og_w1717 : Cond.instanceMethod ⟨"OpenGravesModel", "codesTell", "(II)J"⟩ ∈ og_tbl := og_mc8 37 rfl rfl
theorem og_w1718 : Cond.code ⟨"OpenGravesModel", "codesTell", "(II)J"⟩ prog_14_method_44_code 5 (some .long) ∈ og_tbl := og_mc8 38 rfl rfl
theorem og_w1719 : Cond.methodLink "OpenGravesModel" 402 ⟨"OpenGravesModel", "qPuts", "(J)V"⟩ ∈ og_tbl := og_mc8 39 rfl rfl
theorem og_w1721 : Cond.instanceMethod ⟨"OpenGravesModel", "qPuts", "(J)V"⟩ ∈ og_tbl := og_mc8 41 rfl rfl
theorem og_w1722 : Cond.code ⟨"OpenGravesModel", "qPuts", "(J)V"⟩ prog_14_method_123_code 3 none ∈ og_tbl := og_mc8 42 rfl rfl
theorem og_w1723 : Cond.methodLink "OpenGravesModel" 406 ⟨"OpenGravesModel", "qPartOf", "(II)J"⟩ ∈ og_tbl := og_mc8 43 rfl rfl
theorem og_w1725 : Cond.instanceMethod ⟨"OpenGravesModel", "qPartOf", "(II)J"⟩ ∈ og_tbl := og_mc8 45 rfl rfl
theorem og_w1726 : Cond.code ⟨"OpenGravesModel", "qPartOf", "(II)J"⟩ prog_14_method_125_code 3 (some .long) ∈ og_tbl := og_mc8 46 rfl rfl
theorem og_w1727 : Cond.methodLink "OpenGravesModel" 410 ⟨"OpenGravesModel", "qJoins", "(I)V"⟩ ∈ og_tbl := og_mc8 47 rfl rfl
theorem og_w1729 : Cond.instanceMethod ⟨"OpenGravesModel", "qJoins", "(I)V"⟩ ∈ og_tbl := og_mc8 49 rfl rfl
theorem og_w1730 : Cond.code ⟨"OpenGravesModel", "qJoins", "(I)V"⟩ prog_14_method_124_code 6 none ∈ og_tbl := og_mc8 50 rfl rfl
theorem og_w1731 : Cond.methodLink "OpenGravesModel" 646 ⟨"OpenGravesModel", "qClip", "(J)J"⟩ ∈ og_tbl := og_mc8 51 rfl rfl
theorem og_w1732 : Cond.static ⟨"OpenGravesModel", "qClip", "(J)J"⟩ ∈ og_tbl := og_mc8 52 rfl rfl
theorem og_w1733 : Cond.code ⟨"OpenGravesModel", "qClip", "(J)J"⟩ prog_14_method_121_code 2 (some .long) ∈ og_tbl := og_mc8 53 rfl rfl
theorem og_w1734 : Cond.constantLong "OpenGravesModel" 642 (1000000 : Int64) ∈ og_tbl := og_mc8 54 rfl rfl
theorem og_w1735 : Cond.constantLong "OpenGravesModel" 644 (-1000000 : Int64) ∈ og_tbl := og_mc8 55 rfl rfl
theorem og_w1736 : Cond.methodLink "OpenGravesModel" 650 ⟨"OpenGravesModel", "qFloor", "(JJ)J"⟩ ∈ og_tbl := og_mc8 56 rfl rfl
theorem og_w1737 : Cond.static ⟨"OpenGravesModel", "qFloor", "(JJ)J"⟩ ∈ og_tbl := og_mc8 57 rfl rfl
theorem og_w1738 : Cond.code ⟨"OpenGravesModel", "qFloor", "(JJ)J"⟩ prog_14_method_122_code 6 (some .long) ∈ og_tbl := og_mc8 58 rfl rfl
theorem og_w1739 : Cond.methodLink "OpenGravesModel" 422 ⟨"OpenGravesModel", "cut", "(JI)I"⟩ ∈ og_tbl := og_mc8 59 rfl rfl
theorem og_w1740 : Cond.static ⟨"OpenGravesModel", "cut", "(JI)I"⟩ ∈ og_tbl := og_mc8 60 rfl rfl
theorem og_w1741 : Cond.code ⟨"OpenGravesModel", "cut", "(JI)I"⟩ prog_14_method_3_code 3 (some .int) ∈ og_tbl := og_mc8 61 rfl rfl
theorem og_w1742 : Cond.methodLink "OpenGravesModel" 452 ⟨"OpenGravesModel", "takesOf", "(I)J"⟩ ∈ og_tbl := og_mc8 62 rfl rfl
theorem og_w1744 : Cond.instanceMethod ⟨"OpenGravesModel", "takesOf", "(I)J"⟩ ∈ og_tbl := og_mc8 64 rfl rfl
theorem og_w1745 : Cond.code ⟨"OpenGravesModel", "takesOf", "(I)J"⟩ prog_14_method_47_code 2 (some .long) ∈ og_tbl := og_mc8 65 rfl rfl
theorem og_w1746 : Cond.methodLink "OpenGravesModel" 497 ⟨"OpenGravesModel", "harmOf", "(I)I"⟩ ∈ og_tbl := og_mc8 66 rfl rfl
theorem og_w1748 : Cond.instanceMethod ⟨"OpenGravesModel", "harmOf", "(I)I"⟩ ∈ og_tbl := og_mc8 68 rfl rfl
theorem og_w1749 : Cond.code ⟨"OpenGravesModel", "harmOf", "(I)I"⟩ prog_14_method_48_code 2 (some .int) ∈ og_tbl := og_mc8 69 rfl rfl
theorem og_w1750 : Cond.constantLong "OpenGravesModel" 429 (9 : Int64) ∈ og_tbl := og_mc8 70 rfl rfl
theorem og_w1752 : Cond.instanceMethod ⟨"OpenGravesModel", "next", "(I)I"⟩ ∈ og_tbl := og_mc8 72 rfl rfl
theorem og_w1753 : Cond.selects "OpenGravesModel" ⟨"OpenGravesModel", "next", "(I)I"⟩ ⟨"OpenGravesModel", "next", "(I)I"⟩ ∈ og_tbl := og_mc8 73 rfl rfl
theorem og_w1754 : Cond.code ⟨"OpenGravesModel", "next", "(I)I"⟩ prog_14_method_66_code 2 (some .int) ∈ og_tbl := og_mc8 74 rfl rfl
theorem og_w1755 : Cond.methodLink "OpenGravesModel" 500 ⟨"OpenGravesModel", "isLiving", "(I)Z"⟩ ∈ og_tbl := og_mc8 75 rfl rfl
theorem og_w1757 : Cond.instanceMethod ⟨"OpenGravesModel", "isLiving", "(I)Z"⟩ ∈ og_tbl := og_mc8 77 rfl rfl
theorem og_w1758 : Cond.code ⟨"OpenGravesModel", "isLiving", "(I)Z"⟩ prog_14_method_65_code 2 (some .boolean) ∈ og_tbl := og_mc8 78 rfl rfl
theorem og_w1759 : Cond.methodLink "OpenGravesModel" 445 ⟨"OpenGravesModel", "nextFor", "(I)I"⟩ ∈ og_tbl := og_mc8 79 rfl rfl
theorem og_w1761 : Cond.instanceMethod ⟨"OpenGravesModel", "nextFor", "(I)I"⟩ ∈ og_tbl := og_mc8 81 rfl rfl
theorem og_w1762 : Cond.code ⟨"OpenGravesModel", "nextFor", "(I)I"⟩ prog_14_method_49_code 4 (some .int) ∈ og_tbl := og_mc8 82 rfl rfl
theorem og_w1763 : Cond.methodLink "OpenGravesModel" 431 ⟨"OpenGravesModel", "doesFit", "(II)Z"⟩ ∈ og_tbl := og_mc8 83 rfl rfl
theorem og_w1765 : Cond.instanceMethod ⟨"OpenGravesModel", "doesFit", "(II)Z"⟩ ∈ og_tbl := og_mc8 85 rfl rfl
theorem og_w1766 : Cond.code ⟨"OpenGravesModel", "doesFit", "(II)Z"⟩ prog_14_method_41_code 3 (some .boolean) ∈ og_tbl := og_mc8 86 rfl rfl
theorem og_w1768 : Cond.instanceMethod ⟨"OpenGravesModel", "kept", "(II)I"⟩ ∈ og_tbl := og_mc8 88 rfl rfl
theorem og_w1769 : Cond.selects "OpenGravesModel" ⟨"OpenGravesModel", "kept", "(II)I"⟩ ⟨"OpenGravesModel", "kept", "(II)I"⟩ ∈ og_tbl := og_mc8 89 rfl rfl
theorem og_w1770 : Cond.code ⟨"OpenGravesModel", "kept", "(II)I"⟩ prog_14_method_67_code 3 (some .int) ∈ og_tbl := og_mc8 90 rfl rfl
theorem og_w1771 : Cond.constantLong "OpenGravesModel" 503 (3 : Int64) ∈ og_tbl := og_mc8 91 rfl rfl
theorem og_w1773 : Cond.instanceMethod ⟨"OpenGravesModel", "later", "(II)I"⟩ ∈ og_tbl := og_mc8 93 rfl rfl
theorem og_w1774 : Cond.selects "OpenGravesModel" ⟨"OpenGravesModel", "later", "(II)I"⟩ ⟨"OpenGravesModel", "later", "(II)I"⟩ ∈ og_tbl := og_mc8 94 rfl rfl
theorem og_w1775 : Cond.code ⟨"OpenGravesModel", "later", "(II)I"⟩ prog_14_method_68_code 4 (some .int) ∈ og_tbl := og_mc8 95 rfl rfl
theorem og_w1776 : Cond.methodLink "OpenGravesModel" 505 ⟨"OpenGravesModel", "isAhead", "(III)Z"⟩ ∈ og_tbl := og_mc8 96 rfl rfl
theorem og_w1778 : Cond.instanceMethod ⟨"OpenGravesModel", "isAhead", "(III)Z"⟩ ∈ og_tbl := og_mc8 98 rfl rfl
theorem og_w1779 : Cond.code ⟨"OpenGravesModel", "isAhead", "(III)Z"⟩ prog_14_method_58_code 4 (some .boolean) ∈ og_tbl := og_mc8 99 rfl rfl
theorem og_w1780 : Cond.methodLink "OpenGravesModel" 508 ⟨"OpenGravesModel", "putsAside", "()V"⟩ ∈ og_tbl := og_mc8 100 rfl rfl
theorem og_w1782 : Cond.instanceMethod ⟨"OpenGravesModel", "putsAside", "()V"⟩ ∈ og_tbl := og_mc8 102 rfl rfl
theorem og_w1783 : Cond.code ⟨"OpenGravesModel", "putsAside", "()V"⟩ prog_14_method_55_code 2 none ∈ og_tbl := og_mc8 103 rfl rfl
theorem og_w1784 : Cond.methodLink "OpenGravesModel" 511 ⟨"OpenGravesModel", "monthsGo", "(I)V"⟩ ∈ og_tbl := og_mc8 104 rfl rfl
theorem og_w1786 : Cond.instanceMethod ⟨"OpenGravesModel", "monthsGo", "(I)V"⟩ ∈ og_tbl := og_mc8 106 rfl rfl
theorem og_w1787 : Cond.code ⟨"OpenGravesModel", "monthsGo", "(I)V"⟩ prog_14_method_54_code 3 none ∈ og_tbl := og_mc8 107 rfl rfl
theorem og_w1788 : Cond.methodLink "OpenGravesModel" 468 ⟨"OpenGravesModel", "monthGoes", "()V"⟩ ∈ og_tbl := og_mc8 108 rfl rfl
theorem og_w1790 : Cond.instanceMethod ⟨"OpenGravesModel", "monthGoes", "()V"⟩ ∈ og_tbl := og_mc8 110 rfl rfl
theorem og_w1791 : Cond.code ⟨"OpenGravesModel", "monthGoes", "()V"⟩ prog_14_method_53_code 2 none ∈ og_tbl := og_mc8 111 rfl rfl
theorem og_w1792 : Cond.methodLink "OpenGravesModel" 459 ⟨"OpenGravesModel", "comes", "(I)V"⟩ ∈ og_tbl := og_mc8 112 rfl rfl
theorem og_w1794 : Cond.instanceMethod ⟨"OpenGravesModel", "comes", "(I)V"⟩ ∈ og_tbl := og_mc8 114 rfl rfl
theorem og_w1795 : Cond.code ⟨"OpenGravesModel", "comes", "(I)V"⟩ prog_14_method_51_code 3 none ∈ og_tbl := og_mc8 115 rfl rfl
theorem og_w1796 : Cond.methodLink "OpenGravesModel" 442 ⟨"OpenGravesModel", "doesCome", "(I)Z"⟩ ∈ og_tbl := og_mc8 116 rfl rfl
theorem og_w1798 : Cond.instanceMethod ⟨"OpenGravesModel", "doesCome", "(I)Z"⟩ ∈ og_tbl := og_mc8 118 rfl rfl
theorem og_w1799 : Cond.code ⟨"OpenGravesModel", "doesCome", "(I)Z"⟩ prog_14_method_46_code 2 (some .boolean) ∈ og_tbl := og_mc8 119 rfl rfl
theorem og_w1800 : Cond.methodLink "OpenGravesModel" 448 ⟨"OpenGravesModel", "goesInto", "(III)V"⟩ ∈ og_tbl := og_mc8 120 rfl rfl
theorem og_w1802 : Cond.instanceMethod ⟨"OpenGravesModel", "goesInto", "(III)V"⟩ ∈ og_tbl := og_mc8 122 rfl rfl
theorem og_w1803 : Cond.code ⟨"OpenGravesModel", "goesInto", "(III)V"⟩ prog_14_method_50_code 5 none ∈ og_tbl := og_mc8 123 rfl rfl
theorem og_w1804 : Cond.methodLink "OpenGravesModel" 462 ⟨"OpenGravesModel", "graveTakes", "(I)V"⟩ ∈ og_tbl := og_mc8 124 rfl rfl
theorem og_w1806 : Cond.instanceMethod ⟨"OpenGravesModel", "graveTakes", "(I)V"⟩ ∈ og_tbl := og_mc8 126 rfl rfl
theorem og_w1807 : Cond.code ⟨"OpenGravesModel", "graveTakes", "(I)V"⟩ prog_14_method_52_code 8 none ∈ og_tbl := og_mc8 127 rfl rfl
theorem og_w1808 : Cond.methodLink "OpenGravesModel" 514 ⟨"OpenGravesModel", "takesBack", "()V"⟩ ∈ og_tbl := og_mc8 128 rfl rfl
theorem og_w1810 : Cond.instanceMethod ⟨"OpenGravesModel", "takesBack", "()V"⟩ ∈ og_tbl := og_mc8 130 rfl rfl
theorem og_w1811 : Cond.code ⟨"OpenGravesModel", "takesBack", "()V"⟩ prog_14_method_57_code 1 none ∈ og_tbl := og_mc8 131 rfl rfl
theorem og_w1812 : Cond.methodLink "OpenGravesModel" 471 ⟨"OpenGravesModel", "triesAnew", "()V"⟩ ∈ og_tbl := og_mc8 132 rfl rfl
theorem og_w1814 : Cond.instanceMethod ⟨"OpenGravesModel", "triesAnew", "()V"⟩ ∈ og_tbl := og_mc8 134 rfl rfl
theorem og_w1815 : Cond.code ⟨"OpenGravesModel", "triesAnew", "()V"⟩ prog_14_method_56_code 2 none ∈ og_tbl := og_mc8 135 rfl rfl
theorem og_w1817 : Cond.instanceMethod ⟨"OpenGravesModel", "filled", "(I)I"⟩ ∈ og_tbl := og_mc8 137 rfl rfl
theorem og_w1818 : Cond.selects "OpenGravesModel" ⟨"OpenGravesModel", "filled", "(I)I"⟩ ⟨"OpenGravesModel", "filled", "(I)I"⟩ ∈ og_tbl := og_mc8 138 rfl rfl
theorem og_w1819 : Cond.code ⟨"OpenGravesModel", "filled", "(I)I"⟩ prog_14_method_69_code 4 (some .int) ∈ og_tbl := og_mc8 139 rfl rfl
theorem og_w1821 : Cond.instanceMethod ⟨"OpenGravesModel", "taken", "(I)I"⟩ ∈ og_tbl := og_mc8 141 rfl rfl
theorem og_w1822 : Cond.selects "OpenGravesModel" ⟨"OpenGravesModel", "taken", "(I)I"⟩ ⟨"OpenGravesModel", "taken", "(I)I"⟩ ∈ og_tbl := og_mc8 142 rfl rfl
theorem og_w1823 : Cond.code ⟨"OpenGravesModel", "taken", "(I)I"⟩ prog_14_method_70_code 2 (some .int) ∈ og_tbl := og_mc8 143 rfl rfl
theorem og_w1825 : Cond.instanceMethod ⟨"OpenGravesModel", "row", "(I)I"⟩ ∈ og_tbl := og_mc8 145 rfl rfl
theorem og_w1826 : Cond.selects "OpenGravesModel" ⟨"OpenGravesModel", "row", "(I)I"⟩ ⟨"OpenGravesModel", "row", "(I)I"⟩ ∈ og_tbl := og_mc8 146 rfl rfl
theorem og_w1827 : Cond.code ⟨"OpenGravesModel", "row", "(I)I"⟩ prog_14_method_75_code 5 (some .int) ∈ og_tbl := og_mc8 147 rfl rfl
theorem og_w1828 : Cond.methodLink "OpenGravesModel" 527 ⟨"OpenGravesModel", "laysRows", "()V"⟩ ∈ og_tbl := og_mc8 148 rfl rfl
theorem og_w1830 : Cond.instanceMethod ⟨"OpenGravesModel", "laysRows", "()V"⟩ ∈ og_tbl := og_mc8 150 rfl rfl
theorem og_w1831 : Cond.code ⟨"OpenGravesModel", "laysRows", "()V"⟩ prog_14_method_74_code 3 none ∈ og_tbl := og_mc8 151 rfl rfl
theorem og_w1832 : Cond.methodLink "OpenGravesModel" 524 ⟨"OpenGravesModel", "rowLays", "(II)V"⟩ ∈ og_tbl := og_mc8 152 rfl rfl
theorem og_w1834 : Cond.instanceMethod ⟨"OpenGravesModel", "rowLays", "(II)V"⟩ ∈ og_tbl := og_mc8 154 rfl rfl
theorem og_w1835 : Cond.code ⟨"OpenGravesModel", "rowLays", "(II)V"⟩ prog_14_method_73_code 8 none ∈ og_tbl := og_mc8 155 rfl rfl
theorem og_w1836 : Cond.methodLink "OpenGravesModel" 517 ⟨"OpenGravesModel", "mostBy", "(III)I"⟩ ∈ og_tbl := og_mc8 156 rfl rfl
theorem og_w1838 : Cond.instanceMethod ⟨"OpenGravesModel", "mostBy", "(III)I"⟩ ∈ og_tbl := og_mc8 158 rfl rfl
theorem og_w1839 : Cond.code ⟨"OpenGravesModel", "mostBy", "(III)I"⟩ prog_14_method_71_code 4 (some .int) ∈ og_tbl := og_mc8 159 rfl rfl
theorem og_w1840 : Cond.methodLink "OpenGravesModel" 521 ⟨"OpenGravesModel", "harmBy", "(III)I"⟩ ∈ og_tbl := og_mc8 160 rfl rfl
theorem og_w1842 : Cond.instanceMethod ⟨"OpenGravesModel", "harmBy", "(III)I"⟩ ∈ og_tbl := og_mc8 162 rfl rfl
theorem og_w1843 : Cond.code ⟨"OpenGravesModel", "harmBy", "(III)I"⟩ prog_14_method_72_code 4 (some .int) ∈ og_tbl := og_mc8 163 rfl rfl
theorem og_w1845 : Cond.instanceMethod ⟨"OpenGravesModel", "persuade", "(I)I"⟩ ∈ og_tbl := og_mc8 165 rfl rfl
theorem og_w1846 : Cond.selects "OpenGravesModel" ⟨"OpenGravesModel", "persuade", "(I)I"⟩ ⟨"OpenGravesModel", "persuade", "(I)I"⟩ ∈ og_tbl := og_mc8 166 rfl rfl
theorem og_w1847 : Cond.code ⟨"OpenGravesModel", "persuade", "(I)I"⟩ prog_14_method_76_code 5 (some .int) ∈ og_tbl := og_mc8 167 rfl rfl
theorem og_w1849 : Cond.instanceMethod ⟨"OpenGravesModel", "enemy", "(II)I"⟩ ∈ og_tbl := og_mc8 169 rfl rfl
theorem og_w1850 : Cond.selects "OpenGravesModel" ⟨"OpenGravesModel", "enemy", "(II)I"⟩ ⟨"OpenGravesModel", "enemy", "(II)I"⟩ ∈ og_tbl := og_mc8 170 rfl rfl
theorem og_w1851 : Cond.code ⟨"OpenGravesModel", "enemy", "(II)I"⟩ prog_14_method_80_code 4 (some .int) ∈ og_tbl := og_mc8 171 rfl rfl
theorem og_w1852 : Cond.constantLong "OpenGravesModel" 536 (4 : Int64) ∈ og_tbl := og_mc8 172 rfl rfl
theorem og_w1853 : Cond.constantLong "OpenGravesModel" 538 (-1 : Int64) ∈ og_tbl := og_mc8 173 rfl rfl
theorem og_w1854 : Cond.methodLink "OpenGravesModel" 540 ⟨"OpenGravesModel", "enemyMost", "(I)I"⟩ ∈ og_tbl := og_mc8 174 rfl rfl
theorem og_w1856 : Cond.instanceMethod ⟨"OpenGravesModel", "enemyMost", "(I)I"⟩ ∈ og_tbl := og_mc8 176 rfl rfl
theorem og_w1857 : Cond.code ⟨"OpenGravesModel", "enemyMost", "(I)I"⟩ prog_14_method_79_code 5 (some .int) ∈ og_tbl := og_mc8 177 rfl rfl
theorem og_w1858 : Cond.methodLink "OpenGravesModel" 530 ⟨"OpenGravesModel", "canDig", "(I)Z"⟩ ∈ og_tbl := og_mc8 178 rfl rfl
theorem og_w1860 : Cond.instanceMethod ⟨"OpenGravesModel", "canDig", "(I)Z"⟩ ∈ og_tbl := og_mc8 180 rfl rfl
theorem og_w1861 : Cond.code ⟨"OpenGravesModel", "canDig", "(I)Z"⟩ prog_14_method_78_code 4 (some .boolean) ∈ og_tbl := og_mc8 181 rfl rfl
theorem og_w1862 : Cond.methodLink "OpenGravesModel" 533 ⟨"OpenGravesModel", "goesOn", "(I)Z"⟩ ∈ og_tbl := og_mc8 182 rfl rfl
theorem og_w1864 : Cond.instanceMethod ⟨"OpenGravesModel", "goesOn", "(I)Z"⟩ ∈ og_tbl := og_mc8 184 rfl rfl
theorem og_w1865 : Cond.code ⟨"OpenGravesModel", "goesOn", "(I)Z"⟩ prog_14_method_77_code 4 (some .boolean) ∈ og_tbl := og_mc8 185 rfl rfl
theorem og_w1867 : Cond.instanceMethod ⟨"OpenGravesModel", "odds", "(I)J"⟩ ∈ og_tbl := og_mc8 187 rfl rfl
theorem og_w1868 : Cond.selects "OpenGravesModel" ⟨"OpenGravesModel", "odds", "(I)J"⟩ ⟨"OpenGravesModel", "odds", "(I)J"⟩ ∈ og_tbl := og_mc8 188 rfl rfl
theorem og_w1869 : Cond.code ⟨"OpenGravesModel", "odds", "(I)J"⟩ prog_14_method_83_code 10 (some .long) ∈ og_tbl := og_mc8 189 rfl rfl
theorem og_w1870 : Cond.constantLong "OpenGravesModel" 543 (100 : Int64) ∈ og_tbl := og_mc8 190 rfl rfl
theorem og_w1871 : Cond.methodLink "OpenGravesModel" 545 ⟨"OpenGravesModel", "rowsBy", "(II)J"⟩ ∈ og_tbl := og_mc8 191 rfl rfl
theorem og_w1873 : Cond.instanceMethod ⟨"OpenGravesModel", "rowsBy", "(II)J"⟩ ∈ og_tbl := og_mc8 193 rfl rfl
theorem og_w1874 : Cond.code ⟨"OpenGravesModel", "rowsBy", "(II)J"⟩ prog_14_method_82_code 6 (some .long) ∈ og_tbl := og_mc8 194 rfl rfl
theorem og_w1875 : Cond.methodLink "OpenGravesModel" 548 ⟨"OpenGravesModel", "die", "(I)V"⟩ ∈ og_tbl := og_mc8 195 rfl rfl
theorem og_w1877 : Cond.instanceMethod ⟨"OpenGravesModel", "die", "(I)V"⟩ ∈ og_tbl := og_mc8 197 rfl rfl
theorem og_w1878 : Cond.code ⟨"OpenGravesModel", "die", "(I)V"⟩ prog_14_method_81_code 3 none ∈ og_tbl := og_mc8 198 rfl rfl
theorem og_w1880 : Cond.instanceMethod ⟨"OpenGravesModel", "see", "()I"⟩ ∈ og_tbl := og_mc8 200 rfl rfl
set_option maxRecDepth 8000 in
theorem og_w1881 : Cond.selects "OpenGravesModel" ⟨"OpenGravesModel", "see", "()I"⟩ ⟨"OpenGravesModel", "see", "()I"⟩ ∈ og_tbl := og_mc8 201 rfl rfl
set_option maxRecDepth 8000 in
theorem og_w1882 : Cond.code ⟨"OpenGravesModel", "see", "()I"⟩ prog_14_method_85_code 4 (some .int) ∈ og_tbl := og_mc8 202 rfl rfl
set_option maxRecDepth 8000 in
theorem og_w1883 : Cond.methodLink "OpenGravesModel" 551 ⟨"OpenGravesModel", "refuses", "(I)I"⟩ ∈ og_tbl := og_mc8 203 rfl rfl
set_option maxRecDepth 8000 in
theorem og_w1885 : Cond.instanceMethod ⟨"OpenGravesModel", "refuses", "(I)I"⟩ ∈ og_tbl := og_mc8 205 rfl rfl
set_option maxRecDepth 8000 in
theorem og_w1886 : Cond.code ⟨"OpenGravesModel", "refuses", "(I)I"⟩ prog_14_method_84_code 2 (some .int) ∈ og_tbl := og_mc8 206 rfl rfl
set_option maxRecDepth 8000 in
theorem og_w1888 : Cond.instanceMethod ⟨"OpenGravesModel", "wills", "(I)I"⟩ ∈ og_tbl := og_mc8 208 rfl rfl
set_option maxRecDepth 8000 in
theorem og_w1889 : Cond.selects "OpenGravesModel" ⟨"OpenGravesModel", "wills", "(I)I"⟩ ⟨"OpenGravesModel", "wills", "(I)I"⟩ ∈ og_tbl := og_mc8 209 rfl rfl
set_option maxRecDepth 8000 in
theorem og_w1890 : Cond.code ⟨"OpenGravesModel", "wills", "(I)I"⟩ prog_14_method_89_code 2 (some .int) ∈ og_tbl := og_mc8 210 rfl rfl
set_option maxRecDepth 8000 in
theorem og_w1891 : Cond.methodLink "OpenGravesModel" 560 ⟨"OpenGravesModel", "willSet", "(I)I"⟩ ∈ og_tbl := og_mc8 211 rfl rfl
set_option maxRecDepth 8000 in
theorem og_w1893 : Cond.instanceMethod ⟨"OpenGravesModel", "willSet", "(I)I"⟩ ∈ og_tbl := og_mc8 213 rfl rfl
set_option maxRecDepth 8000 in
theorem og_w1894 : Cond.code ⟨"OpenGravesModel", "willSet", "(I)I"⟩ prog_14_method_88_code 6 (some .int) ∈ og_tbl := og_mc8 214 rfl rfl
set_option maxRecDepth 8000 in
theorem og_w1895 : Cond.methodLink "OpenGravesModel" 554 ⟨"OpenGravesModel", "isAsSeen", "(I)Z"⟩ ∈ og_tbl := og_mc8 215 rfl rfl
set_option maxRecDepth 8000 in
theorem og_w1897 : Cond.instanceMethod ⟨"OpenGravesModel", "isAsSeen", "(I)Z"⟩ ∈ og_tbl := og_mc8 217 rfl rfl
set_option maxRecDepth 8000 in
theorem og_w1898 : Cond.code ⟨"OpenGravesModel", "isAsSeen", "(I)Z"⟩ prog_14_method_86_code 3 (some .boolean) ∈ og_tbl := og_mc8 218 rfl rfl
set_option maxRecDepth 8000 in
theorem og_w1899 : Cond.methodLink "OpenGravesModel" 557 ⟨"OpenGravesModel", "fillSet", "()I"⟩ ∈ og_tbl := og_mc8 219 rfl rfl
set_option maxRecDepth 8000 in
theorem og_w1901 : Cond.instanceMethod ⟨"OpenGravesModel", "fillSet", "()I"⟩ ∈ og_tbl := og_mc8 221 rfl rfl
set_option maxRecDepth 8000 in
theorem og_w1902 : Cond.code ⟨"OpenGravesModel", "fillSet", "()I"⟩ prog_14_method_87_code 3 (some .int) ∈ og_tbl := og_mc8 222 rfl rfl
set_option maxRecDepth 8000 in
theorem og_w1904 : Cond.instanceMethod ⟨"OpenGravesModel", "tells", "(II)I"⟩ ∈ og_tbl := og_mc8 224 rfl rfl
set_option maxRecDepth 8000 in
theorem og_w1905 : Cond.selects "OpenGravesModel" ⟨"OpenGravesModel", "tells", "(II)I"⟩ ⟨"OpenGravesModel", "tells", "(II)I"⟩ ∈ og_tbl := og_mc8 225 rfl rfl
set_option maxRecDepth 8000 in
theorem og_w1906 : Cond.code ⟨"OpenGravesModel", "tells", "(II)I"⟩ prog_14_method_91_code 10 (some .int) ∈ og_tbl := og_mc8 226 rfl rfl
set_option maxRecDepth 8000 in
theorem og_w1907 : Cond.constantLong "OpenGravesModel" 563 (2 : Int64) ∈ og_tbl := og_mc8 227 rfl rfl
set_option maxRecDepth 8000 in
theorem og_w1908 : Cond.methodLink "OpenGravesModel" 565 ⟨"OpenGravesModel", "mostAlike", "(III)I"⟩ ∈ og_tbl := og_mc8 228 rfl rfl
set_option maxRecDepth 8000 in
theorem og_w1910 : Cond.instanceMethod ⟨"OpenGravesModel", "mostAlike", "(III)I"⟩ ∈ og_tbl := og_mc8 230 rfl rfl
set_option maxRecDepth 8000 in
theorem og_w1911 : Cond.code ⟨"OpenGravesModel", "mostAlike", "(III)I"⟩ prog_14_method_90_code 7 (some .int) ∈ og_tbl := og_mc8 231 rfl rfl
set_option maxRecDepth 8000 in
theorem og_w1913 : Cond.instanceMethod ⟨"OpenGravesModel", "undo", "()Z"⟩ ∈ og_tbl := og_mc8 233 rfl rfl
set_option maxRecDepth 8000 in
theorem og_w1914 : Cond.selects "OpenGravesModel" ⟨"OpenGravesModel", "undo", "()Z"⟩ ⟨"OpenGravesModel", "undo", "()Z"⟩ ∈ og_tbl := og_mc8 234 rfl rfl
set_option maxRecDepth 8000 in
theorem og_w1915 : Cond.code ⟨"OpenGravesModel", "undo", "()Z"⟩ prog_14_method_93_code 2 (some .boolean) ∈ og_tbl := og_mc8 235 rfl rfl
set_option maxRecDepth 8000 in
theorem og_w1917 : Cond.instanceMethod ⟨"OpenGravesModel", "dig", "(I)I"⟩ ∈ og_tbl := og_mc8 237 rfl rfl
set_option maxRecDepth 8000 in
theorem og_w1918 : Cond.selects "OpenGravesModel" ⟨"OpenGravesModel", "dig", "(I)I"⟩ ⟨"OpenGravesModel", "dig", "(I)I"⟩ ∈ og_tbl := og_mc8 238 rfl rfl
set_option maxRecDepth 8000 in
theorem og_w1919 : Cond.code ⟨"OpenGravesModel", "dig", "(I)I"⟩ prog_14_method_94_code 2 (some .int) ∈ og_tbl := og_mc8 239 rfl rfl
theorem og_w1920 : Cond.methodLink "OpenGravesModel" 571 ⟨"OpenGravesModel", "keeps", "()V"⟩ ∈ og_tbl := og_mc9 0 rfl rfl
theorem og_w1922 : Cond.instanceMethod ⟨"OpenGravesModel", "keeps", "()V"⟩ ∈ og_tbl := og_mc9 2 rfl rfl
theorem og_w1923 : Cond.code ⟨"OpenGravesModel", "keeps", "()V"⟩ prog_14_method_92_code 2 none ∈ og_tbl := og_mc9 3 rfl rfl
theorem og_w1925 : Cond.instanceMethod ⟨"OpenGravesModel", "fill", "(II)Z"⟩ ∈ og_tbl := og_mc9 5 rfl rfl
theorem og_w1926 : Cond.selects "OpenGravesModel" ⟨"OpenGravesModel", "fill", "(II)Z"⟩ ⟨"OpenGravesModel", "fill", "(II)Z"⟩ ∈ og_tbl := og_mc9 6 rfl rfl
theorem og_w1927 : Cond.code ⟨"OpenGravesModel", "fill", "(II)Z"⟩ prog_14_method_96_code 3 (some .boolean) ∈ og_tbl := og_mc9 7 rfl rfl
theorem og_w1928 : Cond.methodLink "OpenGravesModel" 574 ⟨"OpenGravesModel", "isRefused", "()Z"⟩ ∈ og_tbl := og_mc9 8 rfl rfl
theorem og_w1930 : Cond.instanceMethod ⟨"OpenGravesModel", "isRefused", "()Z"⟩ ∈ og_tbl := og_mc9 10 rfl rfl
theorem og_w1931 : Cond.code ⟨"OpenGravesModel", "isRefused", "()Z"⟩ prog_14_method_95_code 1 (some .boolean) ∈ og_tbl := og_mc9 11 rfl rfl
theorem og_w1933 : Cond.instanceMethod ⟨"OpenGravesModel", "talk", "(II)Z"⟩ ∈ og_tbl := og_mc9 13 rfl rfl
theorem og_w1934 : Cond.selects "OpenGravesModel" ⟨"OpenGravesModel", "talk", "(II)Z"⟩ ⟨"OpenGravesModel", "talk", "(II)Z"⟩ ∈ og_tbl := og_mc9 14 rfl rfl
theorem og_w1935 : Cond.code ⟨"OpenGravesModel", "talk", "(II)Z"⟩ prog_14_method_97_code 3 (some .boolean) ∈ og_tbl := og_mc9 15 rfl rfl
theorem og_w1937 : Cond.instanceMethod ⟨"OpenGravesModel", "months", "(I)I"⟩ ∈ og_tbl := og_mc9 17 rfl rfl
theorem og_w1938 : Cond.selects "OpenGravesModel" ⟨"OpenGravesModel", "months", "(I)I"⟩ ⟨"OpenGravesModel", "months", "(I)I"⟩ ∈ og_tbl := og_mc9 18 rfl rfl
theorem og_w1939 : Cond.code ⟨"OpenGravesModel", "months", "(I)I"⟩ prog_14_method_98_code 2 (some .int) ∈ og_tbl := og_mc9 19 rfl rfl
theorem og_w1941 : Cond.instanceMethod ⟨"OpenGravesModel", "seed", "(I)Z"⟩ ∈ og_tbl := og_mc9 21 rfl rfl
theorem og_w1942 : Cond.selects "OpenGravesModel" ⟨"OpenGravesModel", "seed", "(I)Z"⟩ ⟨"OpenGravesModel", "seed", "(I)Z"⟩ ∈ og_tbl := og_mc9 22 rfl rfl
theorem og_w1943 : Cond.code ⟨"OpenGravesModel", "seed", "(I)Z"⟩ prog_14_method_99_code 2 (some .boolean) ∈ og_tbl := og_mc9 23 rfl rfl
theorem og_w1945 : Cond.instanceMethod ⟨"OpenGravesModel", "chance", "(I)I"⟩ ∈ og_tbl := og_mc9 25 rfl rfl
theorem og_w1946 : Cond.selects "OpenGravesModel" ⟨"OpenGravesModel", "chance", "(I)I"⟩ ⟨"OpenGravesModel", "chance", "(I)I"⟩ ∈ og_tbl := og_mc9 26 rfl rfl
theorem og_w1947 : Cond.code ⟨"OpenGravesModel", "chance", "(I)I"⟩ prog_14_method_101_code 5 (some .int) ∈ og_tbl := og_mc9 27 rfl rfl
theorem og_w1948 : Cond.methodLink "OpenGravesModel" 585 ⟨"OpenGravesModel", "drawOf", "(I)I"⟩ ∈ og_tbl := og_mc9 28 rfl rfl
theorem og_w1950 : Cond.instanceMethod ⟨"OpenGravesModel", "drawOf", "(I)I"⟩ ∈ og_tbl := og_mc9 30 rfl rfl
theorem og_w1951 : Cond.code ⟨"OpenGravesModel", "drawOf", "(I)I"⟩ prog_14_method_100_code 2 (some .int) ∈ og_tbl := og_mc9 31 rfl rfl
theorem og_w1952 : Cond.constantLong "OpenGravesModel" 577 (1103515245 : Int64) ∈ og_tbl := og_mc9 32 rfl rfl
theorem og_w1953 : Cond.constantLong "OpenGravesModel" 579 (12345 : Int64) ∈ og_tbl := og_mc9 33 rfl rfl
theorem og_w1954 : Cond.constantLong "OpenGravesModel" 581 (2147483648 : Int64) ∈ og_tbl := og_mc9 34 rfl rfl
theorem og_w1955 : Cond.constantLong "OpenGravesModel" 583 (64 : Int64) ∈ og_tbl := og_mc9 35 rfl rfl
theorem og_w1957 : Cond.instanceMethod ⟨"OpenGravesModel", "ask", "()J"⟩ ∈ og_tbl := og_mc9 37 rfl rfl
theorem og_w1958 : Cond.selects "OpenGravesModel" ⟨"OpenGravesModel", "ask", "()J"⟩ ⟨"OpenGravesModel", "ask", "()J"⟩ ∈ og_tbl := og_mc9 38 rfl rfl
theorem og_w1959 : Cond.code ⟨"OpenGravesModel", "ask", "()J"⟩ prog_14_method_130_code 3 (some .long) ∈ og_tbl := og_mc9 39 rfl rfl
theorem og_w1960 : Cond.methodLink "OpenGravesModel" 664 ⟨"OpenGravesModel", "qKind", "()I"⟩ ∈ og_tbl := og_mc9 40 rfl rfl
theorem og_w1962 : Cond.instanceMethod ⟨"OpenGravesModel", "qKind", "()I"⟩ ∈ og_tbl := og_mc9 42 rfl rfl
theorem og_w1963 : Cond.code ⟨"OpenGravesModel", "qKind", "()I"⟩ prog_14_method_128_code 2 (some .int) ∈ og_tbl := og_mc9 43 rfl rfl
theorem og_w1964 : Cond.methodLink "OpenGravesModel" 667 ⟨"OpenGravesModel", "qTold", "(I)J"⟩ ∈ og_tbl := og_mc9 44 rfl rfl
theorem og_w1966 : Cond.instanceMethod ⟨"OpenGravesModel", "qTold", "(I)J"⟩ ∈ og_tbl := og_mc9 46 rfl rfl
theorem og_w1967 : Cond.code ⟨"OpenGravesModel", "qTold", "(I)J"⟩ prog_14_method_127_code 4 (some .long) ∈ og_tbl := og_mc9 47 rfl rfl
theorem og_w1968 : Cond.methodLink "OpenGravesModel" 654 ⟨"OpenGravesModel", "qOf", "(IJI)J"⟩ ∈ og_tbl := og_mc9 48 rfl rfl
theorem og_w1970 : Cond.instanceMethod ⟨"OpenGravesModel", "qOf", "(IJI)J"⟩ ∈ og_tbl := og_mc9 50 rfl rfl
theorem og_w1971 : Cond.code ⟨"OpenGravesModel", "qOf", "(IJI)J"⟩ prog_14_method_126_code 5 (some .long) ∈ og_tbl := og_mc9 51 rfl rfl
theorem og_w1972 : Cond.methodLink "OpenGravesModel" 670 ⟨"OpenGravesModel", "qTakes", "(IJI)V"⟩ ∈ og_tbl := og_mc9 52 rfl rfl
theorem og_w1974 : Cond.instanceMethod ⟨"OpenGravesModel", "qTakes", "(IJI)V"⟩ ∈ og_tbl := og_mc9 54 rfl rfl
theorem og_w1975 : Cond.code ⟨"OpenGravesModel", "qTakes", "(IJI)V"⟩ prog_14_method_129_code 6 none ∈ og_tbl := og_mc9 55 rfl rfl
theorem og_w1977 : Cond.instanceMethod ⟨"OpenGravesModel", "image", "()I"⟩ ∈ og_tbl := og_mc9 57 rfl rfl
theorem og_w1978 : Cond.selects "OpenGravesModel" ⟨"OpenGravesModel", "image", "()I"⟩ ⟨"OpenGravesModel", "image", "()I"⟩ ∈ og_tbl := og_mc9 58 rfl rfl
theorem og_w1979 : Cond.code ⟨"OpenGravesModel", "image", "()I"⟩ prog_14_method_133_code 2 (some .int) ∈ og_tbl := og_mc9 59 rfl rfl
theorem og_w1980 : Cond.methodLink "OpenGravesModel" 677 ⟨"OpenGravesModel", "writes", "(I)V"⟩ ∈ og_tbl := og_mc9 60 rfl rfl
theorem og_w1982 : Cond.instanceMethod ⟨"OpenGravesModel", "writes", "(I)V"⟩ ∈ og_tbl := og_mc9 62 rfl rfl
theorem og_w1983 : Cond.code ⟨"OpenGravesModel", "writes", "(I)V"⟩ prog_14_method_132_code 2 none ∈ og_tbl := og_mc9 63 rfl rfl
theorem og_w1984 : Cond.methodLink "OpenGravesModel" 680 ⟨"OpenGravesModel", "checked", "([II)I"⟩ ∈ og_tbl := og_mc9 64 rfl rfl
theorem og_w1985 : Cond.static ⟨"OpenGravesModel", "checked", "([II)I"⟩ ∈ og_tbl := og_mc9 65 rfl rfl
theorem og_w1986 : Cond.code ⟨"OpenGravesModel", "checked", "([II)I"⟩ prog_14_method_131_code 4 (some .int) ∈ og_tbl := og_mc9 66 rfl rfl
theorem og_w1988 : Cond.instanceMethod ⟨"OpenGravesModel", "octet", "(I)I"⟩ ∈ og_tbl := og_mc9 68 rfl rfl
theorem og_w1989 : Cond.selects "OpenGravesModel" ⟨"OpenGravesModel", "octet", "(I)I"⟩ ⟨"OpenGravesModel", "octet", "(I)I"⟩ ∈ og_tbl := og_mc9 69 rfl rfl
theorem og_w1990 : Cond.code ⟨"OpenGravesModel", "octet", "(I)I"⟩ prog_14_method_134_code 2 (some .int) ∈ og_tbl := og_mc9 70 rfl rfl
theorem og_w1992 : Cond.instanceMethod ⟨"OpenGravesModel", "on", "()Z"⟩ ∈ og_tbl := og_mc9 72 rfl rfl
theorem og_w1993 : Cond.selects "OpenGravesModel" ⟨"OpenGravesModel", "on", "()Z"⟩ ⟨"OpenGravesModel", "on", "()Z"⟩ ∈ og_tbl := og_mc9 73 rfl rfl
theorem og_w1994 : Cond.code ⟨"OpenGravesModel", "on", "()Z"⟩ prog_14_method_137_code 3 (some .boolean) ∈ og_tbl := og_mc9 74 rfl rfl
theorem og_w1995 : Cond.methodLink "OpenGravesModel" 687 ⟨"OpenGravesModel", "isImage", "(I)Z"⟩ ∈ og_tbl := og_mc9 75 rfl rfl
theorem og_w1997 : Cond.instanceMethod ⟨"OpenGravesModel", "isImage", "(I)Z"⟩ ∈ og_tbl := og_mc9 77 rfl rfl
theorem og_w1998 : Cond.code ⟨"OpenGravesModel", "isImage", "(I)Z"⟩ prog_14_method_136_code 4 (some .boolean) ∈ og_tbl := og_mc9 78 rfl rfl
theorem og_w1999 : Cond.methodLink "OpenGravesModel" 684 ⟨"OpenGravesModel", "isGraveTold", "(II)Z"⟩ ∈ og_tbl := og_mc9 79 rfl rfl
theorem og_w2001 : Cond.instanceMethod ⟨"OpenGravesModel", "isGraveTold", "(II)Z"⟩ ∈ og_tbl := og_mc9 81 rfl rfl
theorem og_w2002 : Cond.code ⟨"OpenGravesModel", "isGraveTold", "(II)Z"⟩ prog_14_method_135_code 5 (some .boolean) ∈ og_tbl := og_mc9 82 rfl rfl
theorem og_w2004 : Cond.instanceMethod ⟨"OpenGravesModel", "status", "(I)I"⟩ ∈ og_tbl := og_mc9 84 rfl rfl
theorem og_w2005 : Cond.selects "OpenGravesModel" ⟨"OpenGravesModel", "status", "(I)I"⟩ ⟨"OpenGravesModel", "status", "(I)I"⟩ ∈ og_tbl := og_mc9 85 rfl rfl
theorem og_w2006 : Cond.code ⟨"OpenGravesModel", "status", "(I)I"⟩ prog_14_method_138_code 2 (some .int) ∈ og_tbl := og_mc9 86 rfl rfl
