/-! rows of code: pc, instruction, the next pc, three numbers (target; class and slot; callee and kind; word), a constant, whether a jump back comes here -/
abbrev Row : Type := Nat × Instr × Nat × Nat × Nat × Nat × Int × Bool
abbrev r0 (pc : Nat) (i : Instr) (nx : Nat) : Row := (pc, i, nx, 0, 0, 0, 0, false)
abbrev rX (pc : Nat) (i : Instr) (nx x1 x2 x3 : Nat) : Row := (pc, i, nx, x1, x2, x3, 0, false)
abbrev rV (pc : Nat) (i : Instr) (nx x1 x2 x3 : Nat) (v : Int) : Row := (pc, i, nx, x1, x2, x3, v, false)
abbrev rH (pc : Nat) (i : Instr) (nx x1 x2 x3 : Nat) (v : Int) : Row := (pc, i, nx, x1, x2, x3, v, true)
/-- a method: name, bytes, locals, what it returns, rows, frames, parameters, kind (0 virtual, 1 static, 2 constructor, 8 the law), number of its class, places of its words -/
abbrev MT : Type := MethodName × ByteArray × Nat × Option FieldType × List Row × Nat × Nat × Nat × Nat × Nat × Nat × Nat × Nat
-- classes with objects: name, fields in the order of the slots (declaring, name, descriptor, final), how many
def fT0 : u_T := fun k => match k with
  | 0 => ("WeighingPlates", "tape", "LWeighingPlates$Tape;", true)
  | 1 => ("WeighingPlates", "reader", "LWeighingPlates$Reader;", true)
  | 2 => ("WeighingPlates", "sight", "LWeighingPlates$Sight;", true)
  | 3 => ("WeighingPlates", "suspicion", "LWeighingPlates$Suspicion;", true)
  | 4 => ("WeighingPlates", "table", "LWeighingPlates$MaskTable;", true)
  | 5 => ("WeighingPlates", "shortest", "LWeighingPlates$Tour;", true)
  | 6 => ("WeighingPlates", "acts", "LWeighingPlates$Acts;", true)
  | 7 => ("WeighingPlates", "now", "LWeighingPlates$Bench;", false)
  | 8 => ("WeighingPlates", "ready", "Z", false)
  | 9 => ("WeighingPlates", "why", "I", false)
  | 10 => ("WeighingPlates", "latestFault", "I", false)
  | _ => ("WeighingPlates", "faultPlace", "I", false)
def fT1 : u_T := fun k => match k with
  | 0 => ("WeighingPlates$Tape", "bytes", "[I", true)
  | _ => ("WeighingPlates$Tape", "length", "I", false)
def fT2 : u_T := fun k => match k with
  | 0 => ("WeighingPlates$Reader", "foundFault", "I", false)
  | 1 => ("WeighingPlates$Reader", "foundPlace", "I", false)
  | 2 => ("WeighingPlates$Reader", "draft", "LWeighingPlates$Bench;", false)
  | 3 => ("WeighingPlates$Reader", "bytes", "[I", false)
  | 4 => ("WeighingPlates$Reader", "end", "I", false)
  | 5 => ("WeighingPlates$Reader", "sort", "I", false)
  | 6 => ("WeighingPlates$Reader", "from", "I", false)
  | 7 => ("WeighingPlates$Reader", "behind", "I", false)
  | 8 => ("WeighingPlates$Reader", "amount", "I", false)
  | 9 => ("WeighingPlates$Reader", "taken", "I", false)
  | 10 => ("WeighingPlates$Reader", "litBits", "I", false)
  | _ => ("WeighingPlates$Reader", "noisyBits", "I", false)
def fT3 : u_T := fun k => match k with
  | 0 => ("WeighingPlates$Bench", "colours", "I", false)
  | 1 => ("WeighingPlates$Bench", "kind", "I", false)
  | 2 => ("WeighingPlates$Bench", "dark", "I", false)
  | 3 => ("WeighingPlates$Bench", "top", "I", false)
  | 4 => ("WeighingPlates$Bench", "masks", "I", false)
  | 5 => ("WeighingPlates$Bench", "openBits", "I", false)
  | 6 => ("WeighingPlates$Bench", "shutBits", "I", false)
  | 7 => ("WeighingPlates$Bench", "lostBits", "I", false)
  | 8 => ("WeighingPlates$Bench", "plateBits", "[I", true)
  | 9 => ("WeighingPlates$Bench", "lights", "[I", true)
  | 10 => ("WeighingPlates$Bench", "noises", "[I", true)
  | _ => ("WeighingPlates$Bench", "maskBits", "[I", true)
def fT4 : u_T := fun k => match k with
  | 0 => ("WeighingPlates$Sight", "beams", "I", false)
  | 1 => ("WeighingPlates$Sight", "blinded", "I", false)
  | 2 => ("WeighingPlates$Sight", "logSize", "I", false)
  | 3 => ("WeighingPlates$Sight", "scanned", "Z", false)
  | 4 => ("WeighingPlates$Sight", "netSum", "J", false)
  | 5 => ("WeighingPlates$Sight", "logSets", "[I", true)
  | 6 => ("WeighingPlates$Sight", "logReads", "[I", true)
  | 7 => ("WeighingPlates$Sight", "readings", "[I", true)
  | 8 => ("WeighingPlates$Sight", "nets", "[I", true)
  | _ => ("WeighingPlates$Sight", "backs", "[J", true)
def fT5 : u_T := fun k => match k with
  | _ => ("WeighingPlates$Suspicion", "lights", "[I", true)
def fT6 : u_T := fun k => match k with
  | 0 => ("WeighingPlates$MaskTable", "independent", "I", false)
  | 1 => ("WeighingPlates$MaskTable", "toldBits", "I", false)
  | 2 => ("WeighingPlates$MaskTable", "scale", "J", false)
  | 3 => ("WeighingPlates$MaskTable", "tellers", "[I", true)
  | 4 => ("WeighingPlates$MaskTable", "rows", "[[J", true)
  | _ => ("WeighingPlates$MaskTable", "pivots", "[I", true)
def fT7 : u_T := fun k => match k with
  | 0 => ("WeighingPlates$Tour", "known", "Z", false)
  | 1 => ("WeighingPlates$Tour", "moves", "I", false)
  | 2 => ("WeighingPlates$Tour", "order", "[I", true)
  | 3 => ("WeighingPlates$Tour", "steps", "[I", true)
  | 4 => ("WeighingPlates$Tour", "rest", "[I", false)
  | _ => ("WeighingPlates$Tour", "count", "I", false)
def fT8 : u_T := fun k => match k with
  | 0 => ("WeighingPlates$Acts", "kept", "I", false)
  | 1 => ("WeighingPlates$Acts", "sorts", "[I", true)
  | 2 => ("WeighingPlates$Acts", "numbers", "[I", true)
  | _ => ("WeighingPlates$Acts", "befores", "[I", true)
def fT9 : u_T := fun k => match k with
  | 0 => ("WeighingPlatesModel", "thrown", "I", false)
  | 1 => ("WeighingPlatesModel", "trouble", "I", false)
  | 2 => ("WeighingPlatesModel", "wrongAt", "I", false)
  | 3 => ("WeighingPlatesModel", "up", "J", false)
  | 4 => ("WeighingPlatesModel", "lo", "J", false)
  | 5 => ("WeighingPlatesModel", "n", "I", false)
  | 6 => ("WeighingPlatesModel", "kind", "I", false)
  | 7 => ("WeighingPlatesModel", "dark", "I", false)
  | 8 => ("WeighingPlatesModel", "top", "I", false)
  | 9 => ("WeighingPlatesModel", "masks", "I", false)
  | 10 => ("WeighingPlatesModel", "plate", "[I", true)
  | 11 => ("WeighingPlatesModel", "noise", "[I", true)
  | 12 => ("WeighingPlatesModel", "mask", "[I", true)
  | 13 => ("WeighingPlatesModel", "readN", "I", false)
  | 14 => ("WeighingPlatesModel", "readKind", "I", false)
  | 15 => ("WeighingPlatesModel", "readDark", "I", false)
  | 16 => ("WeighingPlatesModel", "readTop", "I", false)
  | 17 => ("WeighingPlatesModel", "readMasks", "I", false)
  | 18 => ("WeighingPlatesModel", "readStuck", "I", false)
  | 19 => ("WeighingPlatesModel", "readNoisy", "I", false)
  | 20 => ("WeighingPlatesModel", "readGone", "I", false)
  | 21 => ("WeighingPlatesModel", "isLit", "I", false)
  | 22 => ("WeighingPlatesModel", "isStuck", "I", false)
  | 23 => ("WeighingPlatesModel", "isNoisy", "I", false)
  | 24 => ("WeighingPlatesModel", "readNoise", "[I", true)
  | 25 => ("WeighingPlatesModel", "readMask", "[I", true)
  | 26 => ("WeighingPlatesModel", "isThere", "Z", false)
  | 27 => ("WeighingPlatesModel", "x", "[I", true)
  | 28 => ("WeighingPlatesModel", "read", "[I", true)
  | 29 => ("WeighingPlatesModel", "past", "[I", true)
  | 30 => ("WeighingPlatesModel", "acts", "I", false)
  | 31 => ("WeighingPlatesModel", "tape", "[B", true)
  | 32 => ("WeighingPlatesModel", "taped", "I", false)
  | 33 => ("WeighingPlatesModel", "size", "I", false)
  | 34 => ("WeighingPlatesModel", "spot", "I", false)
  | 35 => ("WeighingPlatesModel", "token", "I", false)
  | 36 => ("WeighingPlatesModel", "at", "I", false)
  | 37 => ("WeighingPlatesModel", "number", "I", false)
  | 38 => ("WeighingPlatesModel", "fault", "I", false)
  | 39 => ("WeighingPlatesModel", "word", "J", false)
  | 40 => ("WeighingPlatesModel", "logSet", "[I", true)
  | 41 => ("WeighingPlatesModel", "logRead", "[I", true)
  | 42 => ("WeighingPlatesModel", "reading", "[I", true)
  | 43 => ("WeighingPlatesModel", "logged", "I", false)
  | 44 => ("WeighingPlatesModel", "beams", "I", false)
  | 45 => ("WeighingPlatesModel", "blinded", "I", false)
  | 46 => ("WeighingPlatesModel", "isScanned", "Z", false)
  | 47 => ("WeighingPlatesModel", "supposed", "[J", true)
  | 48 => ("WeighingPlatesModel", "ups", "[J", true)
  | 49 => ("WeighingPlatesModel", "los", "[J", true)
  | 50 => ("WeighingPlatesModel", "pivot", "[I", true)
  | 51 => ("WeighingPlatesModel", "rows", "I", false)
  | 52 => ("WeighingPlatesModel", "doAgree", "Z", false)
  | _ => ("WeighingPlatesModel", "togo", "[I", true)
abbrev clT : List vw_C := [("WeighingPlates", fT0, 12), ("WeighingPlates$Tape", fT1, 2), ("WeighingPlates$Reader", fT2, 12), ("WeighingPlates$Bench", fT3, 12), ("WeighingPlates$Sight", fT4, 10), ("WeighingPlates$Suspicion", fT5, 1), ("WeighingPlates$MaskTable", fT6, 6), ("WeighingPlates$Tour", fT7, 6), ("WeighingPlates$Acts", fT8, 4), ("WeighingPlatesModel", fT9, 54)]
-- kinds of fields: 0 int, 1 long, 2 reference, 3 boolean
def fkT : List (List Nat) := [[2, 2, 2, 2, 2, 2, 2, 2, 3, 0, 0, 0], [2, 0], [0, 0, 2, 2, 0, 0, 0, 0, 0, 0, 0, 0], [0, 0, 0, 0, 0, 0, 0, 0, 2, 2, 2, 2], [0, 0, 0, 3, 1, 2, 2, 2, 2, 2], [2], [0, 0, 1, 2, 2, 2], [3, 0, 2, 2, 2, 0], [0, 2, 2, 2], [0, 0, 0, 1, 1, 0, 0, 0, 0, 0, 2, 2, 2, 0, 0, 0, 0, 0, 0, 0, 0, 0, 0, 0, 2, 2, 3, 2, 2, 2, 0, 2, 0, 0, 0, 0, 0, 0, 0, 1, 2, 2, 2, 0, 0, 0, 3, 2, 2, 2, 2, 0, 3, 2]]
-- methods: numbers
abbrev m_ac_init : Nat := 0
abbrev m_ac_clear : Nat := 1
abbrev m_ac_note : Nat := 2
abbrev m_ac_dropOldest : Nat := 3
abbrev m_ac_takeBack : Nat := 4
abbrev m_bn_init : Nat := 5
abbrev m_bn_clear : Nat := 6
abbrev m_bn_makeDoubled : Nat := 7
abbrev m_bn_makeSquares : Nat := 8
abbrev m_bn_has : Nat := 9
abbrev m_bn_hasMask : Nat := 10
abbrev m_bn_isSet : Nat := 11
abbrev m_bn_isLost : Nat := 12
abbrev m_bn_lostCount : Nat := 13
abbrev m_bn_order : Nat := 14
abbrev m_bn_orderSquared : Nat := 15
abbrev m_bn_half : Nat := 16
abbrev m_bn_monitor : Nat := 17
abbrev m_bn_shutterOf : Nat := 18
abbrev m_bn_setShutter : Nat := 19
abbrev m_bn_readOf : Nat := 20
abbrev m_bn_aloneOf : Nat := 21
abbrev m_mt_init : Nat := 22
abbrev m_mt_build : Nat := 23
abbrev m_mt_tells : Nat := 24
abbrev m_mt_times : Nat := 25
abbrev m_mt_squares : Nat := 26
abbrev m_mt_sumOfLooks : Nat := 27
abbrev m_mt_allAgree : Nat := 28
abbrev m_mt_load : Nat := 29
abbrev m_mt_firstColour : Nat := 30
abbrev m_mt_clearPivot : Nat := 31
abbrev m_mt_findTold : Nat := 32
abbrev m_mt_hasOnlyPivot : Nat := 33
abbrev m_ra_part : Nat := 34
abbrev m_ra_isWhole : Nat := 35
abbrev m_ra_commonDivisor : Nat := 36
abbrev m_rd_init : Nat := 37
abbrev m_rd_readAll : Nat := 38
abbrev m_rd_fail : Nat := 39
abbrev m_rd_next : Nat := 40
abbrev m_rd_runOf : Nat := 41
abbrev m_rd_wholeOf : Nat := 42
abbrev m_rd_isWord : Nat := 43
abbrev m_rd_takeWord : Nat := 44
abbrev m_rd_takeWhole : Nat := 45
abbrev m_rd_takeNew : Nat := 46
abbrev m_rd_takeLine : Nat := 47
abbrev m_rd_takeBench : Nat := 48
abbrev m_rd_isPrimeOfBench : Nat := 49
abbrev m_rd_takeLight : Nat := 50
abbrev m_rd_takeStuck : Nat := 51
abbrev m_rd_takeNoise : Nat := 52
abbrev m_rd_takeLost : Nat := 53
abbrev m_rd_takeMask : Nat := 54
abbrev m_sg_init : Nat := 55
abbrev m_sg_startAnew : Nat := 56
abbrev m_sg_forget : Nat := 57
abbrev m_sg_lookAt : Nat := 58
abbrev m_sg_keep : Nat := 59
abbrev m_sg_scanAll : Nat := 60
abbrev m_sg_findNets : Nat := 61
abbrev m_sg_findBacks : Nat := 62
abbrev m_sg_errorOf : Nat := 63
abbrev m_su_init : Nat := 64
abbrev m_su_count : Nat := 65
abbrev m_su_numberOf : Nat := 66
abbrev m_su_holds : Nat := 67
abbrev m_su_supposeFine : Nat := 68
abbrev m_su_supposeOpen : Nat := 69
abbrev m_su_supposeShut : Nat := 70
abbrev m_su_put : Nat := 71
abbrev m_su_sumIsRight : Nat := 72
abbrev m_su_logIsRight : Nat := 73
abbrev m_tp_init : Nat := 74
abbrev m_tp_hasRoom : Nat := 75
abbrev m_tp_put : Nat := 76
abbrev m_tr_init : Nat := 77
abbrev m_tr_find : Nat := 78
abbrev m_tr_findSteps : Nat := 79
abbrev m_tr_fewestFrom : Nat := 80
abbrev m_tr_movesBy : Nat := 81
abbrev m_tr_walk : Nat := 82
abbrev m_tr_nextOf : Nat := 83
abbrev m_w_init : Nat := 84
abbrev m_w_feed : Nat := 85
abbrev m_w_bench : Nat := 86
abbrev m_w_fault : Nat := 87
abbrev m_w_where : Nat := 88
abbrev m_w_about : Nat := 89
abbrev m_w_plate : Nat := 90
abbrev m_w_common : Nat := 91
abbrev m_w_which : Nat := 92
abbrev m_w_apart : Nat := 93
abbrev m_w_odd : Nat := 94
abbrev m_w_light : Nat := 95
abbrev m_w_shutter : Nat := 96
abbrev m_w_noise : Nat := 97
abbrev m_w_lost : Nat := 98
abbrev m_w_look : Nat := 99
abbrev m_w_logged : Nat := 100
abbrev m_w_scan : Nat := 101
abbrev m_w_blinds : Nat := 102
abbrev m_w_reading : Nat := 103
abbrev m_w_net : Nat := 104
abbrev m_w_back : Nat := 105
abbrev m_w_odds : Nat := 106
abbrev m_w_more : Nat := 107
abbrev m_w_error : Nat := 108
abbrev m_w_errors : Nat := 109
abbrev m_w_worst : Nat := 110
abbrev m_w_share : Nat := 111
abbrev m_w_grains : Nat := 112
abbrev m_w_better : Nat := 113
abbrev m_w_alone : Nat := 114
abbrev m_w_alones : Nat := 115
abbrev m_w_closer : Nat := 116
abbrev m_w_suspects : Nat := 117
abbrev m_w_suspect : Nat := 118
abbrev m_w_supposed : Nat := 119
abbrev m_w_mask : Nat := 120
abbrev m_w_rank : Nat := 121
abbrev m_w_told : Nat := 122
abbrev m_w_solved : Nat := 123
abbrev m_w_factor : Nat := 124
abbrev m_w_shareBy : Nat := 125
abbrev m_w_fewer : Nat := 126
abbrev m_w_agree : Nat := 127
abbrev m_w_tour : Nat := 128
abbrev m_w_tourAt : Nat := 129
abbrev m_w_sign : Nat := 130
abbrev m_w_shine : Nat := 131
abbrev m_w_stick : Nat := 132
abbrev m_w_lose : Nat := 133
abbrev m_w_undo : Nat := 134
abbrev m_w_stuck : Nat := 135
abbrev m_w_size : Nat := 136
abbrev m_w_trouble : Nat := 137
abbrev m_w_settle : Nat := 138
abbrev m_w_haveBench : Nat := 139
abbrev m_w_haveOne : Nat := 140
abbrev m_w_haveSet : Nat := 141
abbrev m_w_haveBacks : Nat := 142
abbrev m_w_haveBackOf : Nat := 143
abbrev m_w_haveSuspects : Nat := 144
abbrev m_w_haveTold : Nat := 145
abbrev m_r_init : Nat := 146
abbrev m_r_thrown : Nat := 147
abbrev m_r_refused : Nat := 148
abbrev m_r_refusedLong : Nat := 149
abbrev m_r_good : Nat := 150
abbrev m_r_in : Nat := 151
abbrev m_r_has : Nat := 152
abbrev m_r_many : Nat := 153
abbrev m_r_divisor : Nat := 154
abbrev m_r_sets : Nat := 155
abbrev m_r_part : Nat := 156
abbrev m_r_byteAt : Nat := 157
abbrev m_r_next : Nat := 158
abbrev m_r_nextWord : Nat := 159
abbrev m_r_nextWhole : Nat := 160
abbrev m_r_nextSign : Nat := 161
abbrev m_r_flaw : Nat := 162
abbrev m_r_isWord : Nat := 163
abbrev m_r_needs : Nat := 164
abbrev m_r_wholeAt : Nat := 165
abbrev m_r_readWhole : Nat := 166
abbrev m_r_readNew : Nat := 167
abbrev m_r_readAll : Nat := 168
abbrev m_r_readLine : Nat := 169
abbrev m_r_begins : Nat := 170
abbrev m_r_readBench : Nat := 171
abbrev m_r_readOrder : Nat := 172
abbrev m_r_readLight : Nat := 173
abbrev m_r_readStuckOne : Nat := 174
abbrev m_r_readNoiseOf : Nat := 175
abbrev m_r_readLost : Nat := 176
abbrev m_r_readMaskOf : Nat := 177
abbrev m_r_feed : Nat := 178
abbrev m_r_bench : Nat := 179
abbrev m_r_takesOver : Nat := 180
abbrev m_r_laysDoubled : Nat := 181
abbrev m_r_laysSquares : Nat := 182
abbrev m_r_fault : Nat := 183
abbrev m_r_where : Nat := 184
abbrev m_r_monitor : Nat := 185
abbrev m_r_about : Nat := 186
abbrev m_r_isOne : Nat := 187
abbrev m_r_isSet : Nat := 188
abbrev m_r_plate : Nat := 189
abbrev m_r_common : Nat := 190
abbrev m_r_which : Nat := 191
abbrev m_r_apart : Nat := 192
abbrev m_r_odd : Nat := 193
abbrev m_r_light : Nat := 194
abbrev m_r_shutter : Nat := 195
abbrev m_r_noise : Nat := 196
abbrev m_r_lost : Nat := 197
abbrev m_r_ends : Nat := 198
abbrev m_r_through : Nat := 199
abbrev m_r_looks : Nat := 200
abbrev m_r_look : Nat := 201
abbrev m_r_logged : Nat := 202
abbrev m_r_scan : Nat := 203
abbrev m_r_blinds : Nat := 204
abbrev m_r_refusedLow : Nat := 205
abbrev m_r_reading : Nat := 206
abbrev m_r_losses : Nat := 207
abbrev m_r_netSum : Nat := 208
abbrev m_r_netOf : Nat := 209
abbrev m_r_net : Nat := 210
abbrev m_r_refuses : Nat := 211
abbrev m_r_netAll : Nat := 212
abbrev m_r_partsOf : Nat := 213
abbrev m_r_errorParts : Nat := 214
abbrev m_r_back : Nat := 215
abbrev m_r_odds : Nat := 216
abbrev m_r_more : Nat := 217
abbrev m_r_error : Nat := 218
abbrev m_r_errors : Nat := 219
abbrev m_r_plain : Nat := 220
abbrev m_r_worst : Nat := 221
abbrev m_r_share : Nat := 222
abbrev m_r_grains : Nat := 223
abbrev m_r_better : Nat := 224
abbrev m_r_aloneOf : Nat := 225
abbrev m_r_offAlone : Nat := 226
abbrev m_r_alone : Nat := 227
abbrev m_r_alones : Nat := 228
abbrev m_r_closer : Nat := 229
abbrev m_r_isSuspect : Nat := 230
abbrev m_r_supposes : Nat := 231
abbrev m_r_supposesFine : Nat := 232
abbrev m_r_supposesOpen : Nat := 233
abbrev m_r_supposesShut : Nat := 234
abbrev m_r_areLights : Nat := 235
abbrev m_r_areSeen : Nat := 236
abbrev m_r_supposedRead : Nat := 237
abbrev m_r_refusesSuspects : Nat := 238
abbrev m_r_suspectNumber : Nat := 239
abbrev m_r_suspects : Nat := 240
abbrev m_r_suspect : Nat := 241
abbrev m_r_supposed : Nat := 242
abbrev m_r_puts : Nat := 243
abbrev m_r_clears : Nat := 244
abbrev m_r_laysRows : Nat := 245
abbrev m_r_laysRow : Nat := 246
abbrev m_r_rowOf : Nat := 247
abbrev m_r_mask : Nat := 248
abbrev m_r_rank : Nat := 249
abbrev m_r_told : Nat := 250
abbrev m_r_solved : Nat := 251
abbrev m_r_factor : Nat := 252
abbrev m_r_squaresOf : Nat := 253
abbrev m_r_shareBy : Nat := 254
abbrev m_r_fewer : Nat := 255
abbrev m_r_agree : Nat := 256
abbrev m_r_movesTo : Nat := 257
abbrev m_r_goes : Nat := 258
abbrev m_r_laysTours : Nat := 259
abbrev m_r_tour : Nat := 260
abbrev m_r_tourAt : Nat := 261
abbrev m_r_sign : Nat := 262
abbrev m_r_signAt : Nat := 263
abbrev m_r_remembers : Nat := 264
abbrev m_r_changed : Nat := 265
abbrev m_r_shine : Nat := 266
abbrev m_r_stick : Nat := 267
abbrev m_r_lose : Nat := 268
abbrev m_r_undo : Nat := 269
abbrev m_r_stuck : Nat := 270
abbrev m_r_size : Nat := 271
abbrev m_r_trouble : Nat := 272
abbrev m_ji_bitCount : Nat := 273
abbrev m_js_length : Nat := 274
abbrev m_js_charAt : Nat := 275
abbrev m_js_coder : Nat := 276
abbrev m_js_isLatin1 : Nat := 277
abbrev m_js_checkIndex : Nat := 278
abbrev m_jl_charAt : Nat := 279
abbrev m_jp_checkIndex : Nat := 280
abbrev m_l_law : Nat := 281
-- private constructors of nest mates: own, pool index, method
def nestT : List (String × Nat × MethodName) := [("WeighingPlates", 9, ⟨"WeighingPlates$Tape", "<init>", "()V"⟩), ("WeighingPlates", 18, ⟨"WeighingPlates$Reader", "<init>", "()V"⟩), ("WeighingPlates", 25, ⟨"WeighingPlates$Sight", "<init>", "()V"⟩), ("WeighingPlates", 32, ⟨"WeighingPlates$Suspicion", "<init>", "()V"⟩), ("WeighingPlates", 39, ⟨"WeighingPlates$MaskTable", "<init>", "()V"⟩), ("WeighingPlates", 46, ⟨"WeighingPlates$Tour", "<init>", "()V"⟩), ("WeighingPlates", 53, ⟨"WeighingPlates$Acts", "<init>", "()V"⟩), ("WeighingPlates", 60, ⟨"WeighingPlates$Bench", "<init>", "()V"⟩), ("WeighingPlates$Reader", 20, ⟨"WeighingPlates$Bench", "<init>", "()V"⟩)]
abbrev nStr : Nat := 15
def strB : List (List Int32) := [[110, 111, 32, 115, 117, 99, 104, 32, 99, 111, 108, 111, 117, 114, 32, 105, 115, 32, 115, 116, 117, 99, 107], [98, 101, 110, 99, 104], [108, 105, 103, 104, 116], [115, 116, 117, 99, 107], [110, 111, 105, 115, 101], [108, 111, 115, 116], [109, 97, 115, 107], [100, 111, 117, 98, 108, 101, 100], [115, 113, 117, 97, 114, 101, 115], [100, 97, 114, 107], [116, 111, 112], [111, 112, 101, 110], [115, 104, 117, 116], [112, 108, 117, 115], [108, 101, 115, 115]]
def strN : List Nat := [23, 5, 5, 5, 5, 4, 4, 7, 7, 4, 3, 4, 4, 4, 4]
-- the places where a text is loaded: its own, pool index, text, number of the text
def ldT : List (String × Nat × String × Nat) := [("WeighingPlates", 354, "no such colour is stuck", 0), ("WeighingPlates$Reader", 105, "bench", 1), ("WeighingPlates$Reader", 110, "light", 2), ("WeighingPlates$Reader", 112, "stuck", 3), ("WeighingPlates$Reader", 114, "noise", 4), ("WeighingPlates$Reader", 116, "lost", 5), ("WeighingPlates$Reader", 118, "mask", 6), ("WeighingPlates$Reader", 135, "doubled", 7), ("WeighingPlates$Reader", 137, "squares", 8), ("WeighingPlates$Reader", 142, "dark", 9), ("WeighingPlates$Reader", 149, "top", 10), ("WeighingPlates$Reader", 181, "open", 11), ("WeighingPlates$Reader", 183, "shut", 12), ("WeighingPlates$Reader", 189, "plus", 13), ("WeighingPlates$Reader", 191, "less", 14), ("WeighingPlatesModel", 189, "bench", 1), ("WeighingPlatesModel", 194, "light", 2), ("WeighingPlatesModel", 199, "stuck", 3), ("WeighingPlatesModel", 204, "noise", 4), ("WeighingPlatesModel", 208, "lost", 5), ("WeighingPlatesModel", 213, "mask", 6), ("WeighingPlatesModel", 217, "doubled", 7), ("WeighingPlatesModel", 219, "squares", 8), ("WeighingPlatesModel", 227, "dark", 9), ("WeighingPlatesModel", 233, "top", 10), ("WeighingPlatesModel", 252, "open", 11), ("WeighingPlatesModel", 254, "shut", 12), ("WeighingPlatesModel", 256, "plus", 13), ("WeighingPlatesModel", 258, "less", 14)]
def T_ac_init : List Row := [r0 0 (.aload_n 0) 1, rX 1 (.invokespecial 3) 4 0 4 408, r0 4 (.aload_n 0) 5, r0 5 (.iconst 0) 6, rX 6 (.putfield 9) 9 8 0 409, r0 9 (.aload_n 0) 10, rX 10 (.bipush 10) 12 10 0 0, r0 12 (.newarray .int) 14,
  rX 14 (.putfield 15) 17 8 1 411, r0 17 (.aload_n 0) 18, rX 18 (.bipush 10) 20 10 0 0, r0 20 (.newarray .int) 22, rX 22 (.putfield 19) 25 8 2 412, r0 25 (.aload_n 0) 26, rX 26 (.bipush 10) 28 10 0 0, r0 28 (.newarray .int) 30,
  rX 30 (.putfield 22) 33 8 3 413, r0 33 (.return_) 34]
def T_ac_clear : List Row := [r0 0 (.aload_n 0) 1, r0 1 (.iconst 0) 2, rX 2 (.putfield 9) 5 8 0 409, r0 5 (.return_) 6]
def T_ac_note : List Row := [r0 0 (.aload_n 0) 1, rX 1 (.getfield 9) 4 8 0 409, rX 4 (.bipush 10) 6 10 0 0, rX 6 (.if_icmp .lt 7) 9 13 0 0, r0 9 (.aload_n 0) 10, rX 10 (.invokevirtual 25) 13 3 0 1088, r0 13 (.aload_n 0) 14, rX 14 (.getfield 15) 17 8 1 411,
  r0 17 (.aload_n 0) 18, rX 18 (.getfield 9) 21 8 0 409, r0 21 (.iload_n 1) 22, r0 22 (.iastore) 23, r0 23 (.aload_n 0) 24, rX 24 (.getfield 19) 27 8 2 412, r0 27 (.aload_n 0) 28, rX 28 (.getfield 9) 31 8 0 409,
  r0 31 (.iload_n 2) 32, r0 32 (.iastore) 33, r0 33 (.aload_n 0) 34, rX 34 (.getfield 22) 37 8 3 413, r0 37 (.aload_n 0) 38, rX 38 (.getfield 9) 41 8 0 409, r0 41 (.iload_n 3) 42, r0 42 (.iastore) 43,
  r0 43 (.aload_n 0) 44, r0 44 (.dup) 45, rX 45 (.getfield 9) 48 8 0 409, rX 48 (.iconst 1) 49 1 0 0, r0 49 (.iadd) 50, rX 50 (.putfield 9) 53 8 0 409, r0 53 (.return_) 54]
def T_ac_dropOldest : List Row := [rX 0 (.iconst 1) 1 1 0 0, r0 1 (.istore_n 1) 2, rH 2 (.iload_n 1) 3 0 0 0 0, rX 3 (.bipush 10) 5 10 0 0, rX 5 (.if_icmp .ge 51) 8 56 0 0, r0 8 (.aload_n 0) 9, rX 9 (.getfield 15) 12 8 1 411, r0 12 (.iload_n 1) 13,
  rX 13 (.iconst 1) 14 1 0 0, r0 14 (.isub) 15, r0 15 (.aload_n 0) 16, rX 16 (.getfield 15) 19 8 1 411, r0 19 (.iload_n 1) 20, r0 20 (.iaload) 21, r0 21 (.iastore) 22, r0 22 (.aload_n 0) 23,
  rX 23 (.getfield 19) 26 8 2 412, r0 26 (.iload_n 1) 27, rX 27 (.iconst 1) 28 1 0 0, r0 28 (.isub) 29, r0 29 (.aload_n 0) 30, rX 30 (.getfield 19) 33 8 2 412, r0 33 (.iload_n 1) 34, r0 34 (.iaload) 35,
  r0 35 (.iastore) 36, r0 36 (.aload_n 0) 37, rX 37 (.getfield 22) 40 8 3 413, r0 40 (.iload_n 1) 41, rX 41 (.iconst 1) 42 1 0 0, r0 42 (.isub) 43, r0 43 (.aload_n 0) 44, rX 44 (.getfield 22) 47 8 3 413,
  r0 47 (.iload_n 1) 48, r0 48 (.iaload) 49, r0 49 (.iastore) 50, rX 50 (.iinc 1 1) 53 1 0 0, rX 53 (.goto (-51)) 56 2 0 0, r0 56 (.aload_n 0) 57, rX 57 (.bipush 9) 59 9 0 0, rX 59 (.putfield 9) 62 8 0 409,
  r0 62 (.return_) 63]
def T_ac_takeBack : List Row := [r0 0 (.aload_n 0) 1, rX 1 (.getfield 9) 4 8 0 409, rX 4 (.ifCond .gt 4) 7 8 0 0, r0 7 (.return_) 8, r0 8 (.aload_n 0) 9, r0 9 (.dup) 10, rX 10 (.getfield 9) 13 8 0 409, rX 13 (.iconst 1) 14 1 0 0,
  r0 14 (.isub) 15, rX 15 (.putfield 9) 18 8 0 409, r0 18 (.aload_n 0) 19, rX 19 (.getfield 19) 22 8 2 412, r0 22 (.aload_n 0) 23, rX 23 (.getfield 9) 26 8 0 409, r0 26 (.iaload) 27, r0 27 (.istore_n 2) 28,
  r0 28 (.aload_n 0) 29, rX 29 (.getfield 15) 32 8 1 411, r0 32 (.aload_n 0) 33, rX 33 (.getfield 9) 36 8 0 409, r0 36 (.iaload) 37, rX 37 (.ifCond .ne 29) 40 66 0 0, r0 40 (.aload_n 1) 41, r0 41 (.iload_n 2) 42,
  rX 42 (.invokevirtual 28) 45 9 0 1110, rX 45 (.ifCond .eq 21) 48 66 0 0, r0 48 (.aload_n 1) 49, rX 49 (.getfield 34) 52 3 9 203, r0 52 (.iload_n 2) 53, r0 53 (.aload_n 0) 54, rX 54 (.getfield 22) 57 8 3 413, r0 57 (.aload_n 0) 58,
  rX 58 (.getfield 9) 61 8 0 409, r0 61 (.iaload) 62, r0 62 (.iastore) 63, rX 63 (.goto 47) 66 110 0 0, r0 66 (.aload_n 0) 67, rX 67 (.getfield 15) 70 8 1 411, r0 70 (.aload_n 0) 71, rX 71 (.getfield 9) 74 8 0 409,
  r0 74 (.iaload) 75, rX 75 (.iconst 1) 76 1 0 0, rX 76 (.if_icmp .ne 20) 79 96 0 0, r0 79 (.aload_n 1) 80, r0 80 (.iload_n 2) 81, r0 81 (.aload_n 0) 82, rX 82 (.getfield 22) 85 8 3 413, r0 85 (.aload_n 0) 86,
  rX 86 (.getfield 9) 89 8 0 409, r0 89 (.iaload) 90, rX 90 (.invokevirtual 37) 93 19 0 1111, rX 93 (.goto 17) 96 110 0 0, r0 96 (.aload_n 1) 97, r0 97 (.dup) 98, rX 98 (.getfield 41) 101 3 7 196, rX 101 (.iconst 1) 102 1 0 0,
  r0 102 (.iload_n 2) 103, r0 103 (.ishl) 104, rX 104 (.iconst (-1)) 105 1 1 0, r0 105 (.ixor) 106, r0 106 (.iand) 107, rX 107 (.putfield 41) 110 3 7 196, r0 110 (.return_) 111]
def T_bn_init : List Row := [r0 0 (.aload_n 0) 1, rX 1 (.invokespecial 3) 4 0 4 167, r0 4 (.aload_n 0) 5, r0 5 (.iconst 0) 6, rX 6 (.putfield 9) 9 3 0 168, r0 9 (.aload_n 0) 10, r0 10 (.iconst 0) 11, rX 11 (.putfield 15) 14 3 1 174,
  r0 14 (.aload_n 0) 15, r0 15 (.iconst 0) 16, rX 16 (.putfield 18) 19 3 2 176, r0 19 (.aload_n 0) 20, r0 20 (.iconst 0) 21, rX 21 (.putfield 21) 24 3 3 182, r0 24 (.aload_n 0) 25, r0 25 (.iconst 0) 26,
  rX 26 (.putfield 24) 29 3 4 186, r0 29 (.aload_n 0) 30, r0 30 (.iconst 0) 31, rX 31 (.putfield 27) 34 3 5 191, r0 34 (.aload_n 0) 35, r0 35 (.iconst 0) 36, rX 36 (.putfield 30) 39 3 6 193, r0 39 (.aload_n 0) 40,
  r0 40 (.iconst 0) 41, rX 41 (.putfield 33) 44 3 7 195, r0 44 (.aload_n 0) 45, rX 45 (.bipush 31) 47 31 0 0, r0 47 (.newarray .int) 49, rX 49 (.putfield 36) 52 3 8 199, r0 52 (.aload_n 0) 53, rX 53 (.bipush 31) 55 31 0 0,
  r0 55 (.newarray .int) 57, rX 57 (.putfield 40) 60 3 9 202, r0 60 (.aload_n 0) 61, rX 61 (.bipush 31) 63 31 0 0, r0 63 (.newarray .int) 65, rX 65 (.putfield 43) 68 3 10 207, r0 68 (.aload_n 0) 69, rX 69 (.bipush 12) 71 12 0 0,
  r0 71 (.newarray .int) 73, rX 73 (.putfield 46) 76 3 11 211, r0 76 (.return_) 77]
def T_bn_clear : List Row := [r0 0 (.aload_n 0) 1, r0 1 (.iconst 0) 2, rX 2 (.putfield 9) 5 3 0 168, r0 5 (.aload_n 0) 6, r0 6 (.iconst 0) 7, rX 7 (.putfield 15) 10 3 1 174, r0 10 (.aload_n 0) 11, r0 11 (.iconst 0) 12,
  rX 12 (.putfield 18) 15 3 2 176, r0 15 (.aload_n 0) 16, r0 16 (.iconst 0) 17, rX 17 (.putfield 21) 20 3 3 182, r0 20 (.aload_n 0) 21, r0 21 (.iconst 0) 22, rX 22 (.putfield 24) 25 3 4 186, r0 25 (.aload_n 0) 26,
  r0 26 (.iconst 0) 27, rX 27 (.putfield 27) 30 3 5 191, r0 30 (.aload_n 0) 31, r0 31 (.iconst 0) 32, rX 32 (.putfield 30) 35 3 6 193, r0 35 (.aload_n 0) 36, r0 36 (.iconst 0) 37, rX 37 (.putfield 33) 40 3 7 195,
  r0 40 (.iconst 0) 41, r0 41 (.istore_n 1) 42, rH 42 (.iload_n 1) 43 0 0 0 0, rX 43 (.bipush 31) 45 31 0 0, rX 45 (.if_icmp .ge 30) 48 75 0 0, r0 48 (.aload_n 0) 49, rX 49 (.getfield 36) 52 3 8 199, r0 52 (.iload_n 1) 53,
  r0 53 (.iconst 0) 54, r0 54 (.iastore) 55, r0 55 (.aload_n 0) 56, rX 56 (.getfield 40) 59 3 9 202, r0 59 (.iload_n 1) 60, r0 60 (.iconst 0) 61, r0 61 (.iastore) 62, r0 62 (.aload_n 0) 63,
  rX 63 (.getfield 43) 66 3 10 207, r0 66 (.iload_n 1) 67, r0 67 (.iconst 0) 68, r0 68 (.iastore) 69, rX 69 (.iinc 1 1) 72 1 0 0, rX 72 (.goto (-30)) 75 42 0 0, r0 75 (.return_) 76]
def T_bn_makeDoubled : List Row := [r0 0 (.aload_n 0) 1, r0 1 (.iconst 0) 2, rX 2 (.putfield 15) 5 3 1 174, r0 5 (.aload_n 0) 6, rX 6 (.iconst 1) 7 1 0 0, r0 7 (.iload_n 1) 8, r0 8 (.ishl) 9, rX 9 (.iconst 1) 10 1 0 0,
  r0 10 (.isub) 11, rX 11 (.bipush 31) 13 31 0 0, rX 13 (.invokestatic 49) 16 0 6 592, rX 16 (.putfield 9) 19 3 0 168, r0 19 (.iconst 0) 20, r0 20 (.istore_n 2) 21, rH 21 (.iload_n 2) 22 0 0 0 0, r0 22 (.aload_n 0) 23,
  rX 23 (.getfield 9) 26 3 0 168, rX 26 (.if_icmp .ge 55) 29 81 0 0, r0 29 (.iconst 0) 30, r0 30 (.istore_n 3) 31, r0 31 (.iconst 0) 32, r0 32 (.istore 4) 34, rH 34 (.iload 4) 36 0 0 0 0, r0 36 (.aload_n 0) 37,
  rX 37 (.getfield 9) 40 3 0 168, rX 40 (.if_icmp .ge 28) 43 68 0 0, r0 43 (.iload_n 3) 44, r0 44 (.iload_n 2) 45, rX 45 (.iconst 1) 46 1 0 0, r0 46 (.iadd) 47, r0 47 (.iload 4) 49, rX 49 (.iconst 1) 50 1 0 0,
  r0 50 (.iadd) 51, r0 51 (.iand) 52, rX 52 (.invokestatic 55) 55 273 1 593, rX 55 (.iconst 1) 56 1 0 0, r0 56 (.iand) 57, r0 57 (.iload 4) 59, r0 59 (.ishl) 60, r0 60 (.ior) 61,
  r0 61 (.istore_n 3) 62, rX 62 (.iinc 4 1) 65 1 0 0, rX 65 (.goto (-31)) 68 34 0 0, r0 68 (.aload_n 0) 69, rX 69 (.getfield 36) 72 3 8 199, r0 72 (.iload_n 2) 73, r0 73 (.iload_n 3) 74, r0 74 (.iastore) 75,
  rX 75 (.iinc 2 1) 78 1 0 0, rX 78 (.goto (-57)) 81 21 0 0, r0 81 (.return_) 82]
def T_bn_makeSquares : List Row := [r0 0 (.aload_n 0) 1, rX 1 (.iconst 1) 2 1 0 0, rX 2 (.putfield 15) 5 3 1 174, r0 5 (.aload_n 0) 6, r0 6 (.iload_n 1) 7, rX 7 (.bipush 31) 9 31 0 0, rX 9 (.invokestatic 49) 12 0 6 592, rX 12 (.putfield 9) 15 3 0 168,
  rX 15 (.iconst 1) 16 1 0 0, r0 16 (.istore_n 2) 17, rX 17 (.iconst 1) 18 1 0 0, r0 18 (.istore_n 3) 19, rH 19 (.iload_n 3) 20 0 0 0 0, r0 20 (.aload_n 0) 21, rX 21 (.getfield 9) 24 3 0 168, rX 24 (.if_icmp .ge 22) 27 46 0 0,
  r0 27 (.iload_n 2) 28, rX 28 (.iconst 1) 29 1 0 0, r0 29 (.iload_n 3) 30, r0 30 (.iload_n 3) 31, r0 31 (.imul) 32, r0 32 (.aload_n 0) 33, rX 33 (.getfield 9) 36 3 0 168, r0 36 (.irem) 37,
  r0 37 (.ishl) 38, r0 38 (.ior) 39, r0 39 (.istore_n 2) 40, rX 40 (.iinc 3 1) 43 1 0 0, rX 43 (.goto (-24)) 46 19 0 0, r0 46 (.iconst 0) 47, r0 47 (.istore_n 3) 48, rH 48 (.iload_n 3) 49 0 0 0 0,
  r0 49 (.aload_n 0) 50, rX 50 (.getfield 9) 53 3 0 168, rX 53 (.if_icmp .ge 59) 56 112 0 0, r0 56 (.iconst 0) 57, r0 57 (.istore 4) 59, r0 59 (.iconst 0) 60, r0 60 (.istore 5) 62, rH 62 (.iload 5) 64 0 0 0 0,
  r0 64 (.aload_n 0) 65, rX 65 (.getfield 9) 68 3 0 168, rX 68 (.if_icmp .ge 30) 71 98 0 0, r0 71 (.iload 4) 73, r0 73 (.iload_n 2) 74, r0 74 (.iload_n 3) 75, r0 75 (.iload 5) 77, r0 77 (.iadd) 78,
  r0 78 (.aload_n 0) 79, rX 79 (.getfield 9) 82 3 0 168, r0 82 (.irem) 83, r0 83 (.ishr) 84, rX 84 (.iconst 1) 85 1 0 0, r0 85 (.iand) 86, r0 86 (.iload 5) 88, r0 88 (.ishl) 89,
  r0 89 (.ior) 90, r0 90 (.istore 4) 92, rX 92 (.iinc 5 1) 95 1 0 0, rX 95 (.goto (-33)) 98 62 0 0, r0 98 (.aload_n 0) 99, rX 99 (.getfield 36) 102 3 8 199, r0 102 (.iload_n 3) 103, r0 103 (.iload 4) 105,
  r0 105 (.iastore) 106, rX 106 (.iinc 3 1) 109 1 0 0, rX 109 (.goto (-61)) 112 48 0 0, r0 112 (.return_) 113]
def T_bn_has : List Row := [r0 0 (.iload_n 1) 1, rX 1 (.ifCond .lt 15) 4 16 0 0, r0 4 (.iload_n 1) 5, r0 5 (.aload_n 0) 6, rX 6 (.getfield 9) 9 3 0 168, rX 9 (.if_icmp .ge 7) 12 16 0 0, rX 12 (.iconst 1) 13 1 0 0, rX 13 (.goto 4) 16 17 0 0,
  r0 16 (.iconst 0) 17, r0 17 (.ireturn) 18]
def T_bn_hasMask : List Row := [r0 0 (.iload_n 1) 1, rX 1 (.ifCond .lt 15) 4 16 0 0, r0 4 (.iload_n 1) 5, r0 5 (.aload_n 0) 6, rX 6 (.getfield 24) 9 3 4 186, rX 9 (.if_icmp .ge 7) 12 16 0 0, rX 12 (.iconst 1) 13 1 0 0, rX 13 (.goto 4) 16 17 0 0,
  r0 16 (.iconst 0) 17, r0 17 (.ireturn) 18]
def T_bn_isSet : List Row := [r0 0 (.iload_n 1) 1, rX 1 (.ifCond .lt 16) 4 17 0 0, r0 4 (.iload_n 1) 5, r0 5 (.aload_n 0) 6, rX 6 (.getfield 9) 9 3 0 168, r0 9 (.iushr) 10, rX 10 (.ifCond .ne 7) 13 17 0 0, rX 13 (.iconst 1) 14 1 0 0,
  rX 14 (.goto 4) 17 18 0 0, r0 17 (.iconst 0) 18, r0 18 (.ireturn) 19]
def T_bn_isLost : List Row := [r0 0 (.aload_n 0) 1, rX 1 (.getfield 33) 4 3 7 195, r0 4 (.iload_n 1) 5, r0 5 (.ishr) 6, rX 6 (.iconst 1) 7 1 0 0, r0 7 (.iand) 8, rX 8 (.iconst 1) 9 1 0 0, rX 9 (.if_icmp .ne 7) 12 16 0 0,
  rX 12 (.iconst 1) 13 1 0 0, rX 13 (.goto 4) 16 17 0 0, r0 16 (.iconst 0) 17, r0 17 (.ireturn) 18]
def T_bn_lostCount : List Row := [r0 0 (.aload_n 0) 1, rX 1 (.getfield 33) 4 3 7 195, rX 4 (.invokestatic 55) 7 273 1 593, r0 7 (.ireturn) 8]
def T_bn_order : List Row := [r0 0 (.aload_n 0) 1, rX 1 (.getfield 9) 4 3 0 168, rX 4 (.iconst 1) 5 1 0 0, r0 5 (.iadd) 6, r0 6 (.i2l) 7, r0 7 (.lreturn) 8]
def T_bn_orderSquared : List Row := [r0 0 (.aload_n 0) 1, rX 1 (.invokevirtual 61) 4 14 0 882, r0 4 (.aload_n 0) 5, rX 5 (.invokevirtual 61) 8 14 0 882, r0 8 (.lmul) 9, r0 9 (.lreturn) 10]
def T_bn_half : List Row := [r0 0 (.aload_n 0) 1, rX 1 (.getfield 9) 4 3 0 168, rX 4 (.iconst 1) 5 1 0 0, r0 5 (.iadd) 6, rX 6 (.iconst 2) 7 2 0 0, r0 7 (.idiv) 8, r0 8 (.ireturn) 9]
def T_bn_monitor : List Row := [r0 0 (.iconst 0) 1, r0 1 (.istore_n 1) 2, r0 2 (.iconst 0) 3, r0 3 (.istore_n 2) 4, rH 4 (.iload_n 2) 5 0 0 0 0, r0 5 (.aload_n 0) 6, rX 6 (.getfield 9) 9 3 0 168, rX 9 (.if_icmp .ge 18) 12 27 0 0,
  r0 12 (.iload_n 1) 13, r0 13 (.aload_n 0) 14, rX 14 (.getfield 40) 17 3 9 202, r0 17 (.iload_n 2) 18, r0 18 (.iaload) 19, r0 19 (.iadd) 20, r0 20 (.istore_n 1) 21, rX 21 (.iinc 2 1) 24 1 0 0,
  rX 24 (.goto (-20)) 27 4 0 0, r0 27 (.iload_n 1) 28, r0 28 (.ireturn) 29]
def T_bn_shutterOf : List Row := [r0 0 (.aload_n 0) 1, rX 1 (.getfield 27) 4 3 5 191, r0 4 (.iload_n 1) 5, r0 5 (.ishr) 6, rX 6 (.iconst 1) 7 1 0 0, r0 7 (.iand) 8, rX 8 (.iconst 1) 9 1 0 0, rX 9 (.if_icmp .ne 5) 12 14 0 0,
  rX 12 (.iconst 1) 13 1 0 0, r0 13 (.ireturn) 14, r0 14 (.aload_n 0) 15, rX 15 (.getfield 30) 18 3 6 193, r0 18 (.iload_n 1) 19, r0 19 (.ishr) 20, rX 20 (.iconst 1) 21 1 0 0, r0 21 (.iand) 22,
  rX 22 (.iconst 1) 23 1 0 0, rX 23 (.if_icmp .ne 7) 26 30 0 0, rX 26 (.iconst 2) 27 2 0 0, rX 27 (.goto 4) 30 31 0 0, r0 30 (.iconst 0) 31, r0 31 (.ireturn) 32]
def T_bn_setShutter : List Row := [r0 0 (.aload_n 0) 1, r0 1 (.dup) 2, rX 2 (.getfield 27) 5 3 5 191, rX 5 (.iconst 1) 6 1 0 0, r0 6 (.iload_n 1) 7, r0 7 (.ishl) 8, rX 8 (.iconst (-1)) 9 1 1 0, r0 9 (.ixor) 10,
  r0 10 (.iand) 11, rX 11 (.putfield 27) 14 3 5 191, r0 14 (.aload_n 0) 15, r0 15 (.dup) 16, rX 16 (.getfield 30) 19 3 6 193, rX 19 (.iconst 1) 20 1 0 0, r0 20 (.iload_n 1) 21, r0 21 (.ishl) 22,
  rX 22 (.iconst (-1)) 23 1 1 0, r0 23 (.ixor) 24, r0 24 (.iand) 25, rX 25 (.putfield 30) 28 3 6 193, r0 28 (.iload_n 2) 29, rX 29 (.iconst 1) 30 1 0 0, rX 30 (.if_icmp .ne 15) 33 45 0 0, r0 33 (.aload_n 0) 34,
  r0 34 (.dup) 35, rX 35 (.getfield 27) 38 3 5 191, rX 38 (.iconst 1) 39 1 0 0, r0 39 (.iload_n 1) 40, r0 40 (.ishl) 41, r0 41 (.ior) 42, rX 42 (.putfield 27) 45 3 5 191, r0 45 (.iload_n 2) 46,
  rX 46 (.iconst 2) 47 2 0 0, rX 47 (.if_icmp .ne 15) 50 62 0 0, r0 50 (.aload_n 0) 51, r0 51 (.dup) 52, rX 52 (.getfield 30) 55 3 6 193, rX 55 (.iconst 1) 56 1 0 0, r0 56 (.iload_n 1) 57, r0 57 (.ishl) 58,
  r0 58 (.ior) 59, rX 59 (.putfield 30) 62 3 6 193, r0 62 (.return_) 63]
def T_bn_readOf : List Row := [r0 0 (.iload_n 1) 1, r0 1 (.aload_n 0) 2, rX 2 (.getfield 30) 5 3 6 193, rX 5 (.iconst (-1)) 6 1 1 0, r0 6 (.ixor) 7, r0 7 (.iand) 8, r0 8 (.aload_n 0) 9, rX 9 (.getfield 27) 12 3 5 191,
  r0 12 (.ior) 13, r0 13 (.istore_n 2) 14, r0 14 (.aload_n 0) 15, rX 15 (.getfield 18) 18 3 2 176, r0 18 (.istore_n 3) 19, r0 19 (.iconst 0) 20, r0 20 (.istore 4) 22, rH 22 (.iload 4) 24 0 0 0 0,
  r0 24 (.aload_n 0) 25, rX 25 (.getfield 9) 28 3 0 168, rX 28 (.if_icmp .ge 29) 31 57 0 0, r0 31 (.iload_n 2) 32, r0 32 (.iload 4) 34, r0 34 (.ishr) 35, rX 35 (.iconst 1) 36 1 0 0, r0 36 (.iand) 37,
  rX 37 (.iconst 1) 38 1 0 0, rX 38 (.if_icmp .ne 13) 41 51 0 0, r0 41 (.iload_n 3) 42, r0 42 (.aload_n 0) 43, rX 43 (.getfield 40) 46 3 9 202, r0 46 (.iload 4) 48, r0 48 (.iaload) 49, r0 49 (.iadd) 50,
  r0 50 (.istore_n 3) 51, rX 51 (.iinc 4 1) 54 1 0 0, rX 54 (.goto (-32)) 57 22 0 0, r0 57 (.iload_n 3) 58, r0 58 (.ireturn) 59]
def T_bn_aloneOf : List Row := [r0 0 (.aload_n 0) 1, rX 1 (.iconst 1) 2 1 0 0, r0 2 (.iload_n 1) 3, r0 3 (.ishl) 4, rX 4 (.invokevirtual 65) 7 20 0 910, r0 7 (.aload_n 0) 8, rX 8 (.getfield 43) 11 3 10 207, r0 11 (.iload_n 1) 12,
  r0 12 (.iaload) 13, r0 13 (.iadd) 14, r0 14 (.aload_n 0) 15, rX 15 (.getfield 18) 18 3 2 176, r0 18 (.isub) 19, r0 19 (.ireturn) 20]
def T_mt_init : List Row := [r0 0 (.aload_n 0) 1, rX 1 (.invokespecial 3) 4 0 4 349, r0 4 (.aload_n 0) 5, r0 5 (.iconst 0) 6, rX 6 (.putfield 9) 9 6 0 352, r0 9 (.aload_n 0) 10, r0 10 (.iconst 0) 11, rX 11 (.putfield 15) 14 6 1 354,
  r0 14 (.aload_n 0) 15, rX 15 (.lconst 1) 16 1 0 0, rX 16 (.putfield 18) 19 6 2 356, r0 19 (.aload_n 0) 20, rX 20 (.bipush 31) 22 31 0 0, r0 22 (.newarray .int) 24, rX 24 (.putfield 22) 27 6 3 358, r0 27 (.aload_n 0) 28,
  rX 28 (.bipush 12) 30 12 0 0, rX 30 (.bipush 43) 32 43 0 0, rX 32 (.multianewarray 26 2) 36 80 0 350, rX 36 (.putfield 28) 39 6 4 360, r0 39 (.aload_n 0) 40, rX 40 (.bipush 12) 42 12 0 0, r0 42 (.newarray .int) 44, rX 44 (.putfield 31) 47 6 5 361,
  r0 47 (.return_) 48]
def T_mt_build : List Row := [r0 0 (.aload_n 0) 1, rX 1 (.lconst 1) 2 1 0 0, rX 2 (.putfield 18) 5 6 2 356, r0 5 (.aload_n 0) 6, r0 6 (.iconst 0) 7, rX 7 (.putfield 9) 10 6 0 352, r0 10 (.iconst 0) 11, r0 11 (.istore_n 2) 12,
  rH 12 (.iload_n 2) 13 0 0 0 0, r0 13 (.aload_n 1) 14, rX 14 (.getfield 34) 17 3 4 187, rX 17 (.if_icmp .ge 57) 20 74 0 0, r0 20 (.aload_n 0) 21, r0 21 (.aload_n 1) 22, r0 22 (.iload_n 2) 23, rX 23 (.invokevirtual 39) 26 29 0 665,
  r0 26 (.aload_n 0) 27, rX 27 (.getfield 31) 30 6 5 361, r0 30 (.iload_n 2) 31, r0 31 (.aload_n 0) 32, r0 32 (.aload_n 1) 33, r0 33 (.iload_n 2) 34, rX 34 (.invokevirtual 43) 37 30 0 669, r0 37 (.iastore) 38,
  r0 38 (.aload_n 0) 39, rX 39 (.getfield 31) 42 6 5 361, r0 42 (.iload_n 2) 43, r0 43 (.iaload) 44, rX 44 (.ifCond .lt 24) 47 68 0 0, r0 47 (.aload_n 0) 48, r0 48 (.iload_n 2) 49, r0 49 (.aload_n 0) 50,
  rX 50 (.getfield 31) 53 6 5 361, r0 53 (.iload_n 2) 54, r0 54 (.iaload) 55, rX 55 (.invokevirtual 47) 58 31 0 673, r0 58 (.aload_n 0) 59, r0 59 (.dup) 60, rX 60 (.getfield 9) 63 6 0 352, rX 63 (.iconst 1) 64 1 0 0,
  r0 64 (.iadd) 65, rX 65 (.putfield 9) 68 6 0 352, rX 68 (.iinc 2 1) 71 1 0 0, rX 71 (.goto (-59)) 74 12 0 0, r0 74 (.aload_n 0) 75, r0 75 (.aload_n 1) 76, rX 76 (.invokevirtual 51) 79 32 0 677, r0 79 (.return_) 80]
def T_mt_tells : List Row := [r0 0 (.iload_n 1) 1, rX 1 (.ifCond .lt 25) 4 26 0 0, r0 4 (.iload_n 1) 5, rX 5 (.bipush 31) 7 31 0 0, rX 7 (.if_icmp .ge 19) 10 26 0 0, r0 10 (.aload_n 0) 11, rX 11 (.getfield 15) 14 6 1 354, r0 14 (.iload_n 1) 15,
  r0 15 (.ishr) 16, rX 16 (.iconst 1) 17 1 0 0, r0 17 (.iand) 18, rX 18 (.iconst 1) 19 1 0 0, rX 19 (.if_icmp .ne 7) 22 26 0 0, rX 22 (.iconst 1) 23 1 0 0, rX 23 (.goto 4) 26 27 0 0, r0 26 (.iconst 0) 27,
  r0 27 (.ireturn) 28]
def T_mt_times : List Row := [r0 0 (.iload_n 1) 1, rX 1 (.ifCond .lt 19) 4 20 0 0, r0 4 (.iload_n 1) 5, rX 5 (.bipush 12) 7 12 0 0, rX 7 (.if_icmp .ge 13) 10 20 0 0, r0 10 (.iload_n 2) 11, rX 11 (.ifCond .lt 9) 14 20 0 0, r0 14 (.iload_n 2) 15,
  rX 15 (.bipush 12) 17 12 0 0, rX 17 (.if_icmp .lt 5) 20 22 0 0, r0 20 (.lconst 0) 21, r0 21 (.lreturn) 22, r0 22 (.aload_n 0) 23, rX 23 (.getfield 28) 26 6 4 360, r0 26 (.iload_n 1) 27, r0 27 (.aaload) 28,
  rX 28 (.bipush 31) 30 31 0 0, r0 30 (.iload_n 2) 31, r0 31 (.iadd) 32, r0 32 (.laload) 33, r0 33 (.lreturn) 34]
def T_mt_squares : List Row := [r0 0 (.lconst 0) 1, r0 1 (.lstore_n 3) 2, r0 2 (.iconst 0) 3, r0 3 (.istore 5) 5, rH 5 (.iload 5) 7 0 0 0 0, r0 7 (.aload_n 1) 8, rX 8 (.getfield 34) 11 3 4 187, rX 11 (.if_icmp .ge 27) 14 38 0 0,
  r0 14 (.lload_n 3) 15, r0 15 (.aload_n 0) 16, r0 16 (.iload_n 2) 17, r0 17 (.iload 5) 19, rX 19 (.invokevirtual 55) 22 25 0 1008, r0 22 (.aload_n 0) 23, r0 23 (.iload_n 2) 24, r0 24 (.iload 5) 26,
  rX 26 (.invokevirtual 55) 29 25 0 1008, r0 29 (.lmul) 30, r0 30 (.ladd) 31, r0 31 (.lstore_n 3) 32, rX 32 (.iinc 5 1) 35 1 0 0, rX 35 (.goto (-30)) 38 5 0 0, r0 38 (.lload_n 3) 39, r0 39 (.lreturn) 40]
def T_mt_sumOfLooks : List Row := [r0 0 (.lconst 0) 1, r0 1 (.lstore_n 3) 2, r0 2 (.iconst 0) 3, r0 3 (.istore 5) 5, rH 5 (.iload 5) 7 0 0 0 0, r0 7 (.aload_n 1) 8, rX 8 (.getfield 34) 11 3 4 187, rX 11 (.if_icmp .ge 37) 14 48 0 0,
  r0 14 (.lload_n 3) 15, r0 15 (.aload_n 0) 16, r0 16 (.iload_n 2) 17, r0 17 (.iload 5) 19, rX 19 (.invokevirtual 55) 22 25 0 1008, r0 22 (.aload_n 1) 23, r0 23 (.aload_n 1) 24, rX 24 (.getfield 59) 27 3 11 213,
  r0 27 (.iload 5) 29, r0 29 (.iaload) 30, rX 30 (.invokevirtual 62) 33 20 0 1012, r0 33 (.aload_n 1) 34, rX 34 (.getfield 66) 37 3 2 177, r0 37 (.isub) 38, r0 38 (.i2l) 39, r0 39 (.lmul) 40,
  r0 40 (.ladd) 41, r0 41 (.lstore_n 3) 42, rX 42 (.iinc 5 1) 45 1 0 0, rX 45 (.goto (-40)) 48 5 0 0, r0 48 (.lload_n 3) 49, r0 49 (.lreturn) 50]
def T_mt_allAgree : List Row := [r0 0 (.iconst 0) 1, r0 1 (.istore_n 2) 2, rH 2 (.iload_n 2) 3 0 0 0 0, r0 3 (.aload_n 1) 4, rX 4 (.getfield 34) 7 3 4 187, rX 7 (.if_icmp .ge 31) 10 38 0 0, r0 10 (.aload_n 0) 11, rX 11 (.getfield 31) 14 6 5 361,
  r0 14 (.iload_n 2) 15, r0 15 (.iaload) 16, rX 16 (.ifCond .ge 16) 19 32 0 0, r0 19 (.aload_n 0) 20, r0 20 (.aload_n 1) 21, r0 21 (.iload_n 2) 22, rX 22 (.invokevirtual 69) 25 27 0 1038, r0 25 (.lconst 0) 26,
  r0 26 (.lcmp) 27, rX 27 (.ifCond .eq 5) 30 32 0 0, r0 30 (.iconst 0) 31, r0 31 (.ireturn) 32, rX 32 (.iinc 2 1) 35 1 0 0, rX 35 (.goto (-33)) 38 2 0 0, rX 38 (.iconst 1) 39 1 0 0, r0 39 (.ireturn) 40]
def T_mt_load : List Row := [r0 0 (.aload_n 0) 1, rX 1 (.getfield 28) 4 6 4 360, r0 4 (.iload_n 2) 5, r0 5 (.aaload) 6, r0 6 (.astore_n 3) 7, r0 7 (.aload_n 1) 8, rX 8 (.getfield 59) 11 3 11 213, r0 11 (.iload_n 2) 12,
  r0 12 (.iaload) 13, r0 13 (.istore 4) 15, r0 15 (.iconst 0) 16, r0 16 (.istore 5) 18, rH 18 (.iload 5) 20 0 0 0 0, r0 20 (.aload_n 3) 21, r0 21 (.arraylength) 22, rX 22 (.if_icmp .ge 68) 25 90 0 0,
  r0 25 (.iload 5) 27, rX 27 (.bipush 31) 29 31 0 0, rX 29 (.if_icmp .ge 22) 32 51 0 0, r0 32 (.iload 4) 34, r0 34 (.iload 5) 36, r0 36 (.ishr) 37, rX 37 (.iconst 1) 38 1 0 0, r0 38 (.iand) 39,
  rX 39 (.iconst 1) 40 1 0 0, rX 40 (.if_icmp .ne 7) 43 47 0 0, rX 43 (.iconst 1) 44 1 0 0, rX 44 (.goto 21) 47 65 0 0, r0 47 (.iconst 0) 48, rX 48 (.goto 17) 51 65 0 0, r0 51 (.iload 5) 53, rX 53 (.bipush 31) 55 31 0 0,
  r0 55 (.iload_n 2) 56, r0 56 (.iadd) 57, rX 57 (.if_icmp .ne 7) 60 64 0 0, rX 60 (.iconst 1) 61 1 0 0, rX 61 (.goto 4) 64 65 0 0, r0 64 (.iconst 0) 65, r0 65 (.istore 6) 67, r0 67 (.aload_n 3) 68,
  r0 68 (.iload 5) 70, r0 70 (.iload 6) 72, rX 72 (.ifCond .eq 10) 75 82 0 0, r0 75 (.aload_n 0) 76, rX 76 (.getfield 18) 79 6 2 356, rX 79 (.goto 4) 82 83 0 0, r0 82 (.lconst 0) 83, r0 83 (.lastore) 84,
  rX 84 (.iinc 5 1) 87 1 0 0, rX 87 (.goto (-69)) 90 18 0 0, r0 90 (.iconst 0) 91, r0 91 (.istore 5) 93, rH 93 (.iload 5) 95 0 0 0 0, r0 95 (.iload_n 2) 96, rX 96 (.if_icmp .ge 68) 99 164 0 0, r0 99 (.aload_n 0) 100,
  rX 100 (.getfield 31) 103 6 5 361, r0 103 (.iload 5) 105, r0 105 (.iaload) 106, rX 106 (.ifCond .lt 52) 109 158 0 0, r0 109 (.iload 4) 111, r0 111 (.aload_n 0) 112, rX 112 (.getfield 31) 115 6 5 361, r0 115 (.iload 5) 117,
  r0 117 (.iaload) 118, r0 118 (.ishr) 119, rX 119 (.iconst 1) 120 1 0 0, r0 120 (.iand) 121, rX 121 (.iconst 1) 122 1 0 0, rX 122 (.if_icmp .ne 36) 125 158 0 0, r0 125 (.iconst 0) 126, r0 126 (.istore 6) 128,
  rH 128 (.iload 6) 130 0 0 0 0, r0 130 (.aload_n 3) 131, r0 131 (.arraylength) 132, rX 132 (.if_icmp .ge 26) 135 158 0 0, r0 135 (.aload_n 3) 136, r0 136 (.iload 6) 138, r0 138 (.dup2) 139, r0 139 (.laload) 140,
  r0 140 (.aload_n 0) 141, rX 141 (.getfield 28) 144 6 4 360, r0 144 (.iload 5) 146, r0 146 (.aaload) 147, r0 147 (.iload 6) 149, r0 149 (.laload) 150, r0 150 (.lsub) 151, r0 151 (.lastore) 152,
  rX 152 (.iinc 6 1) 155 1 0 0, rX 155 (.goto (-27)) 158 128 0 0, rX 158 (.iinc 5 1) 161 1 0 0, rX 161 (.goto (-68)) 164 93 0 0, r0 164 (.return_) 165]
def T_mt_firstColour : List Row := [r0 0 (.iconst 0) 1, r0 1 (.istore_n 3) 2, rH 2 (.iload_n 3) 3 0 0 0 0, r0 3 (.aload_n 1) 4, rX 4 (.getfield 73) 7 3 0 172, rX 7 (.if_icmp .ge 24) 10 31 0 0, r0 10 (.aload_n 0) 11, rX 11 (.getfield 28) 14 6 4 360,
  r0 14 (.iload_n 2) 15, r0 15 (.aaload) 16, r0 16 (.iload_n 3) 17, r0 17 (.laload) 18, r0 18 (.lconst 0) 19, r0 19 (.lcmp) 20, rX 20 (.ifCond .eq 5) 23 25 0 0, r0 23 (.iload_n 3) 24,
  r0 24 (.ireturn) 25, rX 25 (.iinc 3 1) 28 1 0 0, rX 28 (.goto (-26)) 31 2 0 0, rX 31 (.iconst (-1)) 32 1 1 0, r0 32 (.ireturn) 33]
def T_mt_clearPivot : List Row := [r0 0 (.aload_n 0) 1, rX 1 (.getfield 28) 4 6 4 360, r0 4 (.iload_n 1) 5, r0 5 (.aaload) 6, r0 6 (.astore_n 3) 7, r0 7 (.aload_n 3) 8, r0 8 (.iload_n 2) 9, r0 9 (.laload) 10,
  r0 10 (.lconst 0) 11, r0 11 (.lcmp) 12, rX 12 (.ifCond .ge 28) 15 40 0 0, r0 15 (.iconst 0) 16, r0 16 (.istore 4) 18, rH 18 (.iload 4) 20 0 0 0 0, r0 20 (.aload_n 3) 21, r0 21 (.arraylength) 22,
  rX 22 (.if_icmp .ge 18) 25 40 0 0, r0 25 (.aload_n 3) 26, r0 26 (.iload 4) 28, r0 28 (.aload_n 3) 29, r0 29 (.iload 4) 31, r0 31 (.laload) 32, r0 32 (.lneg) 33, r0 33 (.lastore) 34,
  rX 34 (.iinc 4 1) 37 1 0 0, rX 37 (.goto (-19)) 40 18 0 0, r0 40 (.aload_n 3) 41, r0 41 (.iload_n 2) 42, r0 42 (.laload) 43, r0 43 (.lstore 4) 45, r0 45 (.iconst 0) 46, r0 46 (.istore 6) 48,
  rH 48 (.iload 6) 50 0 0 0 0, r0 50 (.iload_n 1) 51, rX 51 (.if_icmp .ge 85) 54 136 0 0, r0 54 (.aload_n 0) 55, rX 55 (.getfield 18) 58 6 2 356, r0 58 (.lconst 0) 59, r0 59 (.lcmp) 60, rX 60 (.ifCond .le 76) 63 136 0 0,
  r0 63 (.aload_n 0) 64, rX 64 (.getfield 31) 67 6 5 361, r0 67 (.iload 6) 69, r0 69 (.iaload) 70, rX 70 (.ifCond .lt 60) 73 130 0 0, r0 73 (.aload_n 0) 74, rX 74 (.getfield 28) 77 6 4 360, r0 77 (.iload 6) 79,
  r0 79 (.aaload) 80, r0 80 (.astore 7) 82, r0 82 (.aload 7) 84, r0 84 (.iload_n 2) 85, r0 85 (.laload) 86, r0 86 (.lstore 8) 88, r0 88 (.iconst 0) 89, r0 89 (.istore 10) 91,
  rH 91 (.iload 10) 93 0 0 0 0, r0 93 (.aload_n 3) 94, r0 94 (.arraylength) 95, rX 95 (.if_icmp .ge 35) 98 130 0 0, r0 98 (.aload 7) 100, r0 100 (.iload 10) 102, r0 102 (.lload 4) 104, r0 104 (.aload 7) 106,
  r0 106 (.iload 10) 108, r0 108 (.laload) 109, r0 109 (.lmul) 110, r0 110 (.lload 8) 112, r0 112 (.aload_n 3) 113, r0 113 (.iload 10) 115, r0 115 (.laload) 116, r0 116 (.lmul) 117,
  r0 117 (.lsub) 118, r0 118 (.aload_n 0) 119, rX 119 (.getfield 18) 122 6 2 356, r0 122 (.ldiv) 123, r0 123 (.lastore) 124, rX 124 (.iinc 10 1) 127 1 0 0, rX 127 (.goto (-36)) 130 91 0 0, rX 130 (.iinc 6 1) 133 1 0 0,
  rX 133 (.goto (-85)) 136 48 0 0, r0 136 (.aload_n 0) 137, r0 137 (.lload 4) 139, rX 139 (.putfield 18) 142 6 2 356, r0 142 (.return_) 143]
def T_mt_findTold : List Row := [r0 0 (.aload_n 0) 1, r0 1 (.iconst 0) 2, rX 2 (.putfield 15) 5 6 1 354, r0 5 (.iconst 0) 6, r0 6 (.istore_n 2) 7, rH 7 (.iload_n 2) 8 0 0 0 0, r0 8 (.aload_n 1) 9, rX 9 (.getfield 34) 12 3 4 187,
  rX 12 (.if_icmp .ge 56) 15 68 0 0, r0 15 (.aload_n 0) 16, rX 16 (.getfield 31) 19 6 5 361, r0 19 (.iload_n 2) 20, r0 20 (.iaload) 21, rX 21 (.ifCond .lt 41) 24 62 0 0, r0 24 (.aload_n 0) 25, r0 25 (.aload_n 1) 26,
  r0 26 (.iload_n 2) 27, rX 27 (.invokevirtual 76) 30 33 0 681, rX 30 (.ifCond .eq 32) 33 62 0 0, r0 33 (.aload_n 0) 34, r0 34 (.dup) 35, rX 35 (.getfield 15) 38 6 1 354, rX 38 (.iconst 1) 39 1 0 0, r0 39 (.aload_n 0) 40,
  rX 40 (.getfield 31) 43 6 5 361, r0 43 (.iload_n 2) 44, r0 44 (.iaload) 45, r0 45 (.ishl) 46, r0 46 (.ior) 47, rX 47 (.putfield 15) 50 6 1 354, r0 50 (.aload_n 0) 51, rX 51 (.getfield 22) 54 6 3 358,
  r0 54 (.aload_n 0) 55, rX 55 (.getfield 31) 58 6 5 361, r0 58 (.iload_n 2) 59, r0 59 (.iaload) 60, r0 60 (.iload_n 2) 61, r0 61 (.iastore) 62, rX 62 (.iinc 2 1) 65 1 0 0, rX 65 (.goto (-58)) 68 7 0 0,
  r0 68 (.return_) 69]
def T_mt_hasOnlyPivot : List Row := [r0 0 (.iconst 0) 1, r0 1 (.istore_n 3) 2, rH 2 (.iload_n 3) 3 0 0 0 0, r0 3 (.aload_n 1) 4, rX 4 (.getfield 73) 7 3 0 172, rX 7 (.if_icmp .ge 34) 10 41 0 0, r0 10 (.iload_n 3) 11, r0 11 (.aload_n 0) 12,
  rX 12 (.getfield 31) 15 6 5 361, r0 15 (.iload_n 2) 16, r0 16 (.iaload) 17, rX 17 (.if_icmp .eq 18) 20 35 0 0, r0 20 (.aload_n 0) 21, rX 21 (.getfield 28) 24 6 4 360, r0 24 (.iload_n 2) 25, r0 25 (.aaload) 26,
  r0 26 (.iload_n 3) 27, r0 27 (.laload) 28, r0 28 (.lconst 0) 29, r0 29 (.lcmp) 30, rX 30 (.ifCond .eq 5) 33 35 0 0, r0 33 (.iconst 0) 34, r0 34 (.ireturn) 35, rX 35 (.iinc 3 1) 38 1 0 0,
  rX 38 (.goto (-36)) 41 2 0 0, rX 41 (.iconst 1) 42 1 0 0, r0 42 (.ireturn) 43]
def T_ra_part : List Row := [r0 0 (.lload_n 0) 1, rX 1 (.invokestatic 7) 4 0 7 847, r0 4 (.lload_n 2) 5, rX 5 (.invokestatic 13) 8 36 1 850, r0 8 (.lstore 5) 10, r0 10 (.lload 5) 12, r0 12 (.lconst 0) 13, r0 13 (.lcmp) 14,
  rX 14 (.ifCond .gt 5) 17 19 0 0, r0 17 (.lconst 0) 18, r0 18 (.lreturn) 19, r0 19 (.iload 4) 21, rX 21 (.ifCond .eq 10) 24 31 0 0, r0 24 (.lload_n 2) 25, r0 25 (.lload 5) 27, r0 27 (.ldiv) 28,
  rX 28 (.goto 7) 31 35 0 0, r0 31 (.lload_n 0) 32, r0 32 (.lload 5) 34, r0 34 (.ldiv) 35, r0 35 (.lreturn) 36]
def T_ra_isWhole : List Row := [r0 0 (.lload_n 2) 1, r0 1 (.lconst 0) 2, r0 2 (.lcmp) 3, rX 3 (.ifCond .le 15) 6 18 0 0, r0 6 (.lload_n 0) 7, r0 7 (.lload_n 2) 8, r0 8 (.lrem) 9, r0 9 (.lconst 0) 10,
  r0 10 (.lcmp) 11, rX 11 (.ifCond .ne 7) 14 18 0 0, rX 14 (.iconst 1) 15 1 0 0, rX 15 (.goto 4) 18 19 0 0, r0 18 (.iconst 0) 19, r0 19 (.ireturn) 20]
def T_ra_commonDivisor : List Row := [r0 0 (.lload_n 0) 1, r0 1 (.lstore 4) 3, r0 3 (.lload_n 2) 4, r0 4 (.lstore 6) 6, r0 6 (.iconst 0) 7, r0 7 (.istore 8) 9, rH 9 (.iload 8) 11 0 0 0 0, rX 11 (.bipush 100) 13 100 0 0,
  rX 13 (.if_icmp .ge 31) 16 44 0 0, r0 16 (.lload 6) 18, r0 18 (.lconst 0) 19, r0 19 (.lcmp) 20, rX 20 (.ifCond .eq 24) 23 44 0 0, r0 23 (.lload 4) 25, r0 25 (.lload 6) 27, r0 27 (.lrem) 28,
  r0 28 (.lstore 9) 30, r0 30 (.lload 6) 32, r0 32 (.lstore 4) 34, r0 34 (.lload 9) 36, r0 36 (.lstore 6) 38, rX 38 (.iinc 8 1) 41 1 0 0, rX 41 (.goto (-32)) 44 9 0 0, r0 44 (.lload 4) 46,
  r0 46 (.lreturn) 47]
def T_rd_init : List Row := [r0 0 (.aload_n 0) 1, rX 1 (.invokespecial 3) 4 0 4 161, r0 4 (.aload_n 0) 5, r0 5 (.iconst 0) 6, rX 6 (.putfield 9) 9 2 0 241, r0 9 (.aload_n 0) 10, r0 10 (.iconst 0) 11, rX 11 (.putfield 15) 14 2 1 243,
  r0 14 (.aload_n 0) 15, rX 15 (.new 18) 18 3 0 162, r0 18 (.dup) 19, rX 19 (.invokespecial 20) 22 5 3 8, rX 22 (.putfield 21) 25 2 2 245, r0 25 (.aload_n 0) 26, r0 26 (.iconst 0) 27, r0 27 (.newarray .int) 29,
  rX 29 (.putfield 25) 32 2 3 247, r0 32 (.aload_n 0) 33, r0 33 (.iconst 0) 34, rX 34 (.putfield 29) 37 2 4 248, r0 37 (.aload_n 0) 38, r0 38 (.iconst 0) 39, rX 39 (.putfield 32) 42 2 5 249, r0 42 (.aload_n 0) 43,
  r0 43 (.iconst 0) 44, rX 44 (.putfield 35) 47 2 6 250, r0 47 (.aload_n 0) 48, r0 48 (.iconst 0) 49, rX 49 (.putfield 38) 52 2 7 251, r0 52 (.aload_n 0) 53, r0 53 (.iconst 0) 54, rX 54 (.putfield 41) 57 2 8 252,
  r0 57 (.aload_n 0) 58, r0 58 (.iconst 0) 59, rX 59 (.putfield 44) 62 2 9 253, r0 62 (.aload_n 0) 63, r0 63 (.iconst 0) 64, rX 64 (.putfield 47) 67 2 10 254, r0 67 (.aload_n 0) 68, r0 68 (.iconst 0) 69,
  rX 69 (.putfield 50) 72 2 11 255, r0 72 (.return_) 73]
def T_rd_readAll : List Row := [r0 0 (.aload_n 0) 1, rX 1 (.getfield 21) 4 2 2 245, rX 4 (.invokevirtual 53) 7 6 0 486, r0 7 (.aload_n 0) 8, r0 8 (.aload_n 1) 9, rX 9 (.putfield 25) 12 2 3 247, r0 12 (.aload_n 0) 13, r0 13 (.iload_n 2) 14,
  r0 14 (.aload_n 1) 15, r0 15 (.arraylength) 16, rX 16 (.invokestatic 56) 19 0 6 490, rX 19 (.putfield 29) 22 2 4 248, r0 22 (.aload_n 0) 23, r0 23 (.iconst 0) 24, rX 24 (.putfield 38) 27 2 7 251, r0 27 (.aload_n 0) 28,
  r0 28 (.iconst 0) 29, rX 29 (.putfield 47) 32 2 10 254, r0 32 (.aload_n 0) 33, r0 33 (.iconst 0) 34, rX 34 (.putfield 50) 37 2 11 255, r0 37 (.aload_n 0) 38, r0 38 (.iconst 0) 39, rX 39 (.putfield 9) 42 2 0 241,
  r0 42 (.aload_n 0) 43, r0 43 (.iconst 0) 44, rX 44 (.putfield 15) 47 2 1 243, r0 47 (.aload_n 0) 48, rX 48 (.invokevirtual 62) 51 40 0 493, r0 51 (.iconst 0) 52, r0 52 (.istore_n 3) 53, rH 53 (.iload_n 3) 54 0 0 0 0,
  rX 54 (.sipush 800) 57 800 0 0, rX 57 (.if_icmp .gt 45) 60 102 0 0, r0 60 (.aload_n 0) 61, rX 61 (.invokevirtual 65) 64 47 0 505, rX 64 (.ifCond .ne 5) 67 69 0 0, r0 67 (.iconst 0) 68, r0 68 (.ireturn) 69, r0 69 (.aload_n 0) 70,
  rX 70 (.getfield 32) 73 2 5 249, rX 73 (.ifCond .ne 5) 76 78 0 0, rX 76 (.iconst 1) 77 1 0 0, r0 77 (.ireturn) 78, r0 78 (.aload_n 0) 79, rX 79 (.getfield 32) 82 2 5 249, rX 82 (.iconst 3) 83 3 0 0, rX 83 (.if_icmp .eq 9) 86 92 0 0,
  r0 86 (.aload_n 0) 87, rX 87 (.iconst 1) 88 1 0 0, rX 88 (.invokevirtual 69) 91 39 0 562, r0 91 (.ireturn) 92, r0 92 (.aload_n 0) 93, rX 93 (.invokevirtual 62) 96 40 0 493, rX 96 (.iinc 3 1) 99 1 0 0, rX 99 (.goto (-46)) 102 53 0 0,
  r0 102 (.aload_n 0) 103, rX 103 (.iconst 1) 104 1 0 0, rX 104 (.invokevirtual 69) 107 39 0 562, r0 107 (.ireturn) 108]
def T_rd_fail : List Row := [r0 0 (.aload_n 0) 1, r0 1 (.iload_n 1) 2, rX 2 (.putfield 9) 5 2 0 241, r0 5 (.aload_n 0) 6, r0 6 (.aload_n 0) 7, rX 7 (.getfield 35) 10 2 6 250, rX 10 (.putfield 15) 13 2 1 243, r0 13 (.iconst 0) 14,
  r0 14 (.ireturn) 15]
def T_rd_next : List Row := [r0 0 (.aload_n 0) 1, r0 1 (.aload_n 0) 2, rX 2 (.getfield 38) 5 2 7 251, rX 5 (.putfield 35) 8 2 6 250, rH 8 (.aload_n 0) 9 0 0 0 0, rX 9 (.getfield 35) 12 2 6 250, r0 12 (.aload_n 0) 13, rX 13 (.getfield 29) 16 2 4 248,
  rX 16 (.if_icmp .ge 30) 19 46 0 0, r0 19 (.aload_n 0) 20, rX 20 (.getfield 25) 23 2 3 247, r0 23 (.aload_n 0) 24, rX 24 (.getfield 35) 27 2 6 250, r0 27 (.iaload) 28, rX 28 (.bipush 32) 30 32 0 0, rX 30 (.if_icmp .ne 16) 33 46 0 0,
  r0 33 (.aload_n 0) 34, r0 34 (.dup) 35, rX 35 (.getfield 35) 38 2 6 250, rX 38 (.iconst 1) 39 1 0 0, r0 39 (.iadd) 40, rX 40 (.putfield 35) 43 2 6 250, rX 43 (.goto (-35)) 46 8 0 0, r0 46 (.aload_n 0) 47,
  rX 47 (.bipush 97) 49 97 0 0, rX 49 (.bipush 122) 51 122 0 0, rX 51 (.invokevirtual 73) 54 41 0 497, r0 54 (.istore_n 1) 55, r0 55 (.aload_n 0) 56, rX 56 (.bipush 48) 58 48 0 0, rX 58 (.bipush 57) 60 57 0 0, rX 60 (.invokevirtual 73) 63 41 0 497,
  r0 63 (.istore_n 2) 64, r0 64 (.aload_n 0) 65, rX 65 (.getfield 35) 68 2 6 250, r0 68 (.aload_n 0) 69, rX 69 (.getfield 29) 72 2 4 248, rX 72 (.if_icmp .lt 19) 75 91 0 0, r0 75 (.aload_n 0) 76, r0 76 (.iconst 0) 77,
  rX 77 (.putfield 32) 80 2 5 249, r0 80 (.aload_n 0) 81, r0 81 (.aload_n 0) 82, rX 82 (.getfield 29) 85 2 4 248, rX 85 (.putfield 38) 88 2 7 251, rX 88 (.goto 112) 91 200 0 0, r0 91 (.iload_n 1) 92, rX 92 (.ifCond .le 31) 95 123 0 0,
  r0 95 (.aload_n 0) 96, r0 96 (.iload_n 1) 97, rX 97 (.bipush 7) 99 7 0 0, rX 99 (.if_icmp .gt 7) 102 106 0 0, rX 102 (.iconst 1) 103 1 0 0, rX 103 (.goto 4) 106 107 0 0, rX 106 (.iconst 4) 107 4 0 0, rX 107 (.putfield 32) 110 2 5 249,
  r0 110 (.aload_n 0) 111, r0 111 (.aload_n 0) 112, rX 112 (.getfield 35) 115 2 6 250, r0 115 (.iload_n 1) 116, r0 116 (.iadd) 117, rX 117 (.putfield 38) 120 2 7 251, rX 120 (.goto 80) 123 200 0 0, r0 123 (.iload_n 2) 124,
  rX 124 (.ifCond .le 43) 127 167 0 0, r0 127 (.aload_n 0) 128, r0 128 (.iload_n 2) 129, rX 129 (.bipush 6) 131 6 0 0, rX 131 (.if_icmp .gt 7) 134 138 0 0, rX 134 (.iconst 2) 135 2 0 0, rX 135 (.goto 4) 138 139 0 0, rX 138 (.iconst 4) 139 4 0 0,
  rX 139 (.putfield 32) 142 2 5 249, r0 142 (.aload_n 0) 143, r0 143 (.aload_n 0) 144, rX 144 (.getfield 35) 147 2 6 250, r0 147 (.iload_n 2) 148, r0 148 (.iadd) 149, rX 149 (.putfield 38) 152 2 7 251, r0 152 (.aload_n 0) 153,
  r0 153 (.aload_n 0) 154, r0 154 (.aload_n 0) 155, rX 155 (.getfield 38) 158 2 7 251, rX 158 (.invokevirtual 77) 161 42 0 501, rX 161 (.putfield 41) 164 2 8 252, rX 164 (.goto 36) 167 200 0 0, r0 167 (.aload_n 0) 168, r0 168 (.aload_n 0) 169,
  rX 169 (.getfield 25) 172 2 3 247, r0 172 (.aload_n 0) 173, rX 173 (.getfield 35) 176 2 6 250, r0 176 (.iaload) 177, rX 177 (.bipush 59) 179 59 0 0, rX 179 (.if_icmp .ne 7) 182 186 0 0, rX 182 (.iconst 3) 183 3 0 0, rX 183 (.goto 4) 186 187 0 0,
  rX 186 (.iconst 4) 187 4 0 0, rX 187 (.putfield 32) 190 2 5 249, r0 190 (.aload_n 0) 191, r0 191 (.aload_n 0) 192, rX 192 (.getfield 35) 195 2 6 250, rX 195 (.iconst 1) 196 1 0 0, r0 196 (.iadd) 197, rX 197 (.putfield 38) 200 2 7 251,
  r0 200 (.return_) 201]
def T_rd_runOf : List Row := [r0 0 (.aload_n 0) 1, rX 1 (.getfield 35) 4 2 6 250, r0 4 (.istore_n 3) 5, rH 5 (.iload_n 3) 6 0 0 0 0, r0 6 (.aload_n 0) 7, rX 7 (.getfield 29) 10 2 4 248, rX 10 (.if_icmp .ge 29) 13 39 0 0, r0 13 (.aload_n 0) 14,
  rX 14 (.getfield 25) 17 2 3 247, r0 17 (.iload_n 3) 18, r0 18 (.iaload) 19, r0 19 (.iload_n 1) 20, rX 20 (.if_icmp .lt 19) 23 39 0 0, r0 23 (.aload_n 0) 24, rX 24 (.getfield 25) 27 2 3 247, r0 27 (.iload_n 3) 28,
  r0 28 (.iaload) 29, r0 29 (.iload_n 2) 30, rX 30 (.if_icmp .gt 9) 33 39 0 0, rX 33 (.iinc 3 1) 36 1 0 0, rX 36 (.goto (-31)) 39 5 0 0, r0 39 (.iload_n 3) 40, r0 40 (.aload_n 0) 41, rX 41 (.getfield 35) 44 2 6 250,
  r0 44 (.isub) 45, r0 45 (.ireturn) 46]
def T_rd_wholeOf : List Row := [r0 0 (.iconst 0) 1, r0 1 (.istore_n 2) 2, r0 2 (.aload_n 0) 3, rX 3 (.getfield 35) 6 2 6 250, r0 6 (.istore_n 3) 7, rH 7 (.iload_n 3) 8 0 0 0 0, r0 8 (.iload_n 1) 9, rX 9 (.if_icmp .ge 32) 12 41 0 0,
  r0 12 (.iload_n 3) 13, r0 13 (.aload_n 0) 14, rX 14 (.getfield 29) 17 2 4 248, rX 17 (.if_icmp .ge 24) 20 41 0 0, r0 20 (.iload_n 2) 21, rX 21 (.bipush 10) 23 10 0 0, r0 23 (.imul) 24, r0 24 (.aload_n 0) 25,
  rX 25 (.getfield 25) 28 2 3 247, r0 28 (.iload_n 3) 29, r0 29 (.iaload) 30, r0 30 (.iadd) 31, rX 31 (.bipush 48) 33 48 0 0, r0 33 (.isub) 34, r0 34 (.istore_n 2) 35, rX 35 (.iinc 3 1) 38 1 0 0,
  rX 38 (.goto (-31)) 41 7 0 0, r0 41 (.iload_n 2) 42, r0 42 (.ireturn) 43]
def T_rd_isWord : List Row := [r0 0 (.aload_n 0) 1, rX 1 (.getfield 32) 4 2 5 249, rX 4 (.iconst 1) 5 1 0 0, rX 5 (.if_icmp .ne 19) 8 24 0 0, r0 8 (.aload_n 0) 9, rX 9 (.getfield 38) 12 2 7 251, r0 12 (.aload_n 0) 13, rX 13 (.getfield 35) 16 2 6 250,
  r0 16 (.isub) 17, r0 17 (.aload_n 1) 18, rX 18 (.invokevirtual 81) 21 274 0 514, rX 21 (.if_icmp .eq 5) 24 26 0 0, r0 24 (.iconst 0) 25, r0 25 (.ireturn) 26, r0 26 (.iconst 0) 27, r0 27 (.istore_n 2) 28,
  rH 28 (.iload_n 2) 29 0 0 0 0, r0 29 (.aload_n 1) 30, rX 30 (.invokevirtual 81) 33 274 0 514, rX 33 (.if_icmp .ge 43) 36 76 0 0, r0 36 (.aload_n 0) 37, rX 37 (.getfield 35) 40 2 6 250, r0 40 (.iload_n 2) 41, r0 41 (.iadd) 42,
  r0 42 (.aload_n 0) 43, rX 43 (.getfield 29) 46 2 4 248, rX 46 (.if_icmp .ge 30) 49 76 0 0, r0 49 (.aload_n 0) 50, rX 50 (.getfield 25) 53 2 3 247, r0 53 (.aload_n 0) 54, rX 54 (.getfield 35) 57 2 6 250, r0 57 (.iload_n 2) 58,
  r0 58 (.iadd) 59, r0 59 (.iaload) 60, r0 60 (.aload_n 1) 61, r0 61 (.iload_n 2) 62, rX 62 (.invokevirtual 87) 65 275 0 524, rX 65 (.if_icmp .eq 5) 68 70 0 0, r0 68 (.iconst 0) 69, r0 69 (.ireturn) 70,
  rX 70 (.iinc 2 1) 73 1 0 0, rX 73 (.goto (-45)) 76 28 0 0, rX 76 (.iconst 1) 77 1 0 0, r0 77 (.ireturn) 78]
def T_rd_takeWord : List Row := [r0 0 (.aload_n 0) 1, r0 1 (.aload_n 1) 2, rX 2 (.invokevirtual 91) 5 43 0 510, rX 5 (.ifCond .ne 9) 8 14 0 0, r0 8 (.aload_n 0) 9, rX 9 (.iconst 1) 10 1 0 0, rX 10 (.invokevirtual 69) 13 39 0 562, r0 13 (.ireturn) 14,
  r0 14 (.aload_n 0) 15, rX 15 (.invokevirtual 62) 18 40 0 493, rX 18 (.iconst 1) 19 1 0 0, r0 19 (.ireturn) 20]
def T_rd_takeWhole : List Row := [r0 0 (.aload_n 0) 1, rX 1 (.getfield 32) 4 2 5 249, rX 4 (.iconst 2) 5 2 0 0, rX 5 (.if_icmp .eq 9) 8 14 0 0, r0 8 (.aload_n 0) 9, rX 9 (.iconst 1) 10 1 0 0, rX 10 (.invokevirtual 69) 13 39 0 562, r0 13 (.ireturn) 14,
  r0 14 (.aload_n 0) 15, rX 15 (.getfield 41) 18 2 8 252, r0 18 (.iload_n 1) 19, rX 19 (.if_icmp .lt 11) 22 30 0 0, r0 22 (.aload_n 0) 23, rX 23 (.getfield 41) 26 2 8 252, r0 26 (.iload_n 2) 27, rX 27 (.if_icmp .le 9) 30 36 0 0,
  r0 30 (.aload_n 0) 31, rX 31 (.iconst 2) 32 2 0 0, rX 32 (.invokevirtual 69) 35 39 0 562, r0 35 (.ireturn) 36, r0 36 (.aload_n 0) 37, r0 37 (.aload_n 0) 38, rX 38 (.getfield 41) 41 2 8 252, rX 41 (.putfield 44) 44 2 9 253,
  r0 44 (.aload_n 0) 45, rX 45 (.invokevirtual 62) 48 40 0 493, rX 48 (.iconst 1) 49 1 0 0, r0 49 (.ireturn) 50]
def T_rd_takeNew : List Row := [r0 0 (.aload_n 0) 1, rX 1 (.getfield 32) 4 2 5 249, rX 4 (.iconst 2) 5 2 0 0, rX 5 (.if_icmp .ne 35) 8 40 0 0, r0 8 (.aload_n 0) 9, rX 9 (.getfield 21) 12 2 2 245, r0 12 (.aload_n 0) 13, rX 13 (.getfield 41) 16 2 8 252,
  rX 16 (.invokevirtual 95) 19 9 0 616, rX 19 (.ifCond .eq 21) 22 40 0 0, r0 22 (.iload_n 1) 23, r0 23 (.aload_n 0) 24, rX 24 (.getfield 41) 27 2 8 252, r0 27 (.ishr) 28, rX 28 (.iconst 1) 29 1 0 0, r0 29 (.iand) 30,
  rX 30 (.iconst 1) 31 1 0 0, rX 31 (.if_icmp .ne 9) 34 40 0 0, r0 34 (.aload_n 0) 35, rX 35 (.iconst 3) 36 3 0 0, rX 36 (.invokevirtual 69) 39 39 0 562, r0 39 (.ireturn) 40, r0 40 (.aload_n 0) 41, r0 41 (.iconst 0) 42,
  r0 42 (.aload_n 0) 43, rX 43 (.getfield 21) 46 2 2 245, rX 46 (.getfield 98) 49 3 0 173, rX 49 (.iconst 1) 50 1 0 0, r0 50 (.isub) 51, rX 51 (.invokevirtual 101) 54 45 0 577, r0 54 (.ireturn) 55]
def T_rd_takeLine : List Row := [r0 0 (.aload_n 0) 1, rV 1 (.ldc 105) 3 1 1 509 1, rX 3 (.invokevirtual 91) 6 43 0 510, rX 6 (.ifCond .eq 26) 9 32 0 0, r0 9 (.aload_n 0) 10, rX 10 (.getfield 21) 13 2 2 245, rX 13 (.getfield 98) 16 3 0 173, rX 16 (.ifCond .le 11) 19 27 0 0,
  r0 19 (.aload_n 0) 20, rX 20 (.iconst 3) 21 3 0 0, rX 21 (.invokevirtual 69) 24 39 0 562, rX 24 (.goto 7) 27 31 0 0, r0 27 (.aload_n 0) 28, rX 28 (.invokevirtual 107) 31 48 0 566, r0 31 (.ireturn) 32, r0 32 (.aload_n 0) 33,
  rV 33 (.ldc 110) 35 2 2 603 1, rX 35 (.invokevirtual 91) 38 43 0 510, rX 38 (.ifCond .ne 39) 41 77 0 0, r0 41 (.aload_n 0) 42, rV 42 (.ldc 112) 44 3 3 604 1, rX 44 (.invokevirtual 91) 47 43 0 510, rX 47 (.ifCond .ne 30) 50 77 0 0, r0 50 (.aload_n 0) 51,
  rV 51 (.ldc 114) 53 4 4 605 1, rX 53 (.invokevirtual 91) 56 43 0 510, rX 56 (.ifCond .ne 21) 59 77 0 0, r0 59 (.aload_n 0) 60, rV 60 (.ldc 116) 62 5 5 606 1, rX 62 (.invokevirtual 91) 65 43 0 510, rX 65 (.ifCond .ne 12) 68 77 0 0, r0 68 (.aload_n 0) 69,
  rV 69 (.ldc 118) 71 6 6 607 1, rX 71 (.invokevirtual 91) 74 43 0 510, rX 74 (.ifCond .eq 7) 77 81 0 0, rX 77 (.iconst 1) 78 1 0 0, rX 78 (.goto 4) 81 82 0 0, r0 81 (.iconst 0) 82, r0 82 (.istore_n 1) 83, r0 83 (.iload_n 1) 84,
  rX 84 (.ifCond .ne 9) 87 93 0 0, r0 87 (.aload_n 0) 88, rX 88 (.iconst 1) 89 1 0 0, rX 89 (.invokevirtual 69) 92 39 0 562, r0 92 (.ireturn) 93, r0 93 (.aload_n 0) 94, rX 94 (.getfield 21) 97 2 2 245, rX 97 (.getfield 98) 100 3 0 173,
  rX 100 (.ifCond .ne 9) 103 109 0 0, r0 103 (.aload_n 0) 104, rX 104 (.iconst 5) 105 5 0 0, rX 105 (.invokevirtual 69) 108 39 0 562, r0 108 (.ireturn) 109, r0 109 (.aload_n 0) 110, rV 110 (.ldc 110) 112 2 2 603 1, rX 112 (.invokevirtual 91) 115 43 0 510,
  rX 115 (.ifCond .eq 8) 118 123 0 0, r0 118 (.aload_n 0) 119, rX 119 (.invokevirtual 120) 122 50 0 608, r0 122 (.ireturn) 123, r0 123 (.aload_n 0) 124, rV 124 (.ldc 112) 126 3 3 604 1, rX 126 (.invokevirtual 91) 129 43 0 510, rX 129 (.ifCond .eq 8) 132 137 0 0,
  r0 132 (.aload_n 0) 133, rX 133 (.invokevirtual 123) 136 51 0 620, r0 136 (.ireturn) 137, r0 137 (.aload_n 0) 138, rV 138 (.ldc 114) 140 4 4 605 1, rX 140 (.invokevirtual 91) 143 43 0 510, rX 143 (.ifCond .eq 8) 146 151 0 0, r0 146 (.aload_n 0) 147,
  rX 147 (.invokevirtual 126) 150 52 0 631, r0 150 (.ireturn) 151, r0 151 (.aload_n 0) 152, rV 152 (.ldc 116) 154 5 5 606 1, rX 154 (.invokevirtual 91) 157 43 0 510, rX 157 (.ifCond .eq 10) 160 167 0 0, r0 160 (.aload_n 0) 161, rX 161 (.invokevirtual 129) 164 53 0 637,
  rX 164 (.goto 7) 167 171 0 0, r0 167 (.aload_n 0) 168, rX 168 (.invokevirtual 132) 171 54 0 645, r0 171 (.ireturn) 172]
def T_rd_takeBench : List Row := [r0 0 (.aload_n 0) 1, rX 1 (.invokevirtual 62) 4 40 0 493, r0 4 (.aload_n 0) 5, rV 5 (.ldc 135) 7 7 7 570 1, rX 7 (.invokevirtual 91) 10 43 0 510, r0 10 (.istore_n 1) 11, r0 11 (.iload_n 1) 12, rX 12 (.ifCond .ne 18) 15 30 0 0,
  r0 15 (.aload_n 0) 16, rV 16 (.ldc 137) 18 8 8 571 1, rX 18 (.invokevirtual 91) 21 43 0 510, rX 21 (.ifCond .ne 9) 24 30 0 0, r0 24 (.aload_n 0) 25, rX 25 (.iconst 1) 26 1 0 0, rX 26 (.invokevirtual 69) 29 39 0 562, r0 29 (.ireturn) 30,
  r0 30 (.aload_n 0) 31, rX 31 (.invokevirtual 62) 34 40 0 493, r0 34 (.iload_n 1) 35, rX 35 (.ifCond .ne 27) 38 62 0 0, r0 38 (.aload_n 0) 39, rX 39 (.getfield 32) 42 2 5 249, rX 42 (.iconst 2) 43 2 0 0, rX 43 (.if_icmp .ne 19) 46 62 0 0,
  r0 46 (.aload_n 0) 47, rX 47 (.getfield 41) 50 2 8 252, rX 50 (.invokestatic 139) 53 49 1 572, rX 53 (.ifCond .ne 9) 56 62 0 0, r0 56 (.aload_n 0) 57, rX 57 (.iconst 2) 58 2 0 0, rX 58 (.invokevirtual 69) 61 39 0 562, r0 61 (.ireturn) 62,
  r0 62 (.iload_n 1) 63, rX 63 (.ifCond .eq 15) 66 78 0 0, r0 66 (.aload_n 0) 67, rX 67 (.iconst 2) 68 2 0 0, rX 68 (.iconst 5) 69 5 0 0, rX 69 (.invokevirtual 101) 72 45 0 577, rX 72 (.ifCond .eq 16) 75 88 0 0, rX 75 (.goto 15) 78 90 0 0,
  r0 78 (.aload_n 0) 79, rX 79 (.iconst 3) 80 3 0 0, rX 80 (.bipush 31) 82 31 0 0, rX 82 (.invokevirtual 101) 85 45 0 577, rX 85 (.ifCond .ne 5) 88 90 0 0, r0 88 (.iconst 0) 89, r0 89 (.ireturn) 90, r0 90 (.aload_n 0) 91,
  rX 91 (.getfield 44) 94 2 9 253, r0 94 (.istore_n 2) 95, r0 95 (.aload_n 0) 96, rV 96 (.ldc 142) 98 9 9 581 1, rX 98 (.invokevirtual 144) 101 44 0 582, rX 101 (.ifCond .eq 14) 104 115 0 0, r0 104 (.aload_n 0) 105, r0 105 (.iconst 0) 106,
  rX 106 (.sipush 999) 109 999 0 0, rX 109 (.invokevirtual 101) 112 45 0 577, rX 112 (.ifCond .ne 5) 115 117 0 0, r0 115 (.iconst 0) 116, r0 116 (.ireturn) 117, r0 117 (.aload_n 0) 118, rX 118 (.getfield 21) 121 2 2 245, r0 121 (.aload_n 0) 122,
  rX 122 (.getfield 44) 125 2 9 253, rX 125 (.putfield 147) 128 3 2 181, r0 128 (.aload_n 0) 129, rV 129 (.ldc 149) 131 10 10 586 1, rX 131 (.invokevirtual 144) 134 44 0 582, rX 134 (.ifCond .eq 13) 137 147 0 0, r0 137 (.aload_n 0) 138, rX 138 (.iconst 1) 139 1 0 0,
  rX 139 (.ldc 151) 141 999999 0 587, rX 141 (.invokevirtual 101) 144 45 0 577, rX 144 (.ifCond .ne 5) 147 149 0 0, r0 147 (.iconst 0) 148, r0 148 (.ireturn) 149, r0 149 (.aload_n 0) 150, rX 150 (.getfield 21) 153 2 2 245, r0 153 (.aload_n 0) 154,
  rX 154 (.getfield 44) 157 2 9 253, rX 157 (.putfield 152) 160 3 3 185, r0 160 (.iload_n 1) 161, rX 161 (.ifCond .eq 14) 164 175 0 0, r0 164 (.aload_n 0) 165, rX 165 (.getfield 21) 168 2 2 245, r0 168 (.iload_n 2) 169, rX 169 (.invokevirtual 154) 172 7 0 588,
  rX 172 (.goto 11) 175 183 0 0, r0 175 (.aload_n 0) 176, rX 176 (.getfield 21) 179 2 2 245, r0 179 (.iload_n 2) 180, rX 180 (.invokevirtual 158) 183 8 0 599, rX 183 (.iconst 1) 184 1 0 0, r0 184 (.ireturn) 185]
def T_rd_isPrimeOfBench : List Row := [rX 0 (.getstatic 161) 3 1 0 575, r0 3 (.astore_n 1) 4, r0 4 (.aload_n 1) 5, r0 5 (.arraylength) 6, r0 6 (.istore_n 2) 7, r0 7 (.iconst 0) 8, r0 8 (.istore_n 3) 9, rH 9 (.iload_n 3) 10 0 0 0 0,
  r0 10 (.iload_n 2) 11, rX 11 (.if_icmp .ge 22) 14 33 0 0, r0 14 (.aload_n 1) 15, r0 15 (.iload_n 3) 16, r0 16 (.iaload) 17, r0 17 (.istore 4) 19, r0 19 (.iload 4) 21, r0 21 (.iload_n 0) 22,
  rX 22 (.if_icmp .ne 5) 25 27 0 0, rX 25 (.iconst 1) 26 1 0 0, r0 26 (.ireturn) 27, rX 27 (.iinc 3 1) 30 1 0 0, rX 30 (.goto (-21)) 33 9 0 0, r0 33 (.iconst 0) 34, r0 34 (.ireturn) 35]
def T_rd_takeLight : List Row := [r0 0 (.aload_n 0) 1, rX 1 (.invokevirtual 62) 4 40 0 493, r0 4 (.aload_n 0) 5, r0 5 (.aload_n 0) 6, rX 6 (.getfield 47) 9 2 10 254, rX 9 (.invokevirtual 164) 12 46 0 612, rX 12 (.ifCond .ne 5) 15 17 0 0, r0 15 (.iconst 0) 16,
  r0 16 (.ireturn) 17, r0 17 (.aload_n 0) 18, rX 18 (.getfield 44) 21 2 9 253, r0 21 (.istore_n 1) 22, r0 22 (.aload_n 0) 23, r0 23 (.dup) 24, rX 24 (.getfield 47) 27 2 10 254, rX 27 (.iconst 1) 28 1 0 0,
  r0 28 (.iload_n 1) 29, r0 29 (.ishl) 30, r0 30 (.ior) 31, rX 31 (.putfield 47) 34 2 10 254, r0 34 (.aload_n 0) 35, r0 35 (.iconst 0) 36, rX 36 (.sipush 9999) 39 9999 0 0, rX 39 (.invokevirtual 101) 42 45 0 577,
  rX 42 (.ifCond .ne 5) 45 47 0 0, r0 45 (.iconst 0) 46, r0 46 (.ireturn) 47, r0 47 (.aload_n 0) 48, rX 48 (.getfield 21) 51 2 2 245, rX 51 (.getfield 167) 54 3 9 206, r0 54 (.iload_n 1) 55, r0 55 (.aload_n 0) 56,
  rX 56 (.getfield 44) 59 2 9 253, r0 59 (.iastore) 60, rX 60 (.iconst 1) 61 1 0 0, r0 61 (.ireturn) 62]
def T_rd_takeStuck : List Row := [r0 0 (.aload_n 0) 1, rX 1 (.getfield 21) 4 2 2 245, rX 4 (.getfield 170) 7 3 5 192, r0 7 (.aload_n 0) 8, rX 8 (.getfield 21) 11 2 2 245, rX 11 (.getfield 173) 14 3 6 194, r0 14 (.ior) 15, r0 15 (.istore_n 1) 16,
  r0 16 (.iload_n 1) 17, rX 17 (.invokestatic 176) 20 273 1 624, rX 20 (.iconst 3) 21 3 0 0, rX 21 (.if_icmp .lt 9) 24 30 0 0, r0 24 (.aload_n 0) 25, rX 25 (.iconst 4) 26 4 0 0, rX 26 (.invokevirtual 69) 29 39 0 562, r0 29 (.ireturn) 30,
  r0 30 (.aload_n 0) 31, rX 31 (.invokevirtual 62) 34 40 0 493, r0 34 (.aload_n 0) 35, r0 35 (.iload_n 1) 36, rX 36 (.invokevirtual 164) 39 46 0 612, rX 39 (.ifCond .ne 5) 42 44 0 0, r0 42 (.iconst 0) 43, r0 43 (.ireturn) 44,
  r0 44 (.aload_n 0) 45, rV 45 (.ldc 181) 47 11 11 625 1, rX 47 (.invokevirtual 91) 50 43 0 510, r0 50 (.istore_n 2) 51, r0 51 (.iload_n 2) 52, rX 52 (.ifCond .ne 18) 55 70 0 0, r0 55 (.aload_n 0) 56, rV 56 (.ldc 183) 58 12 12 626 1,
  rX 58 (.invokevirtual 91) 61 43 0 510, rX 61 (.ifCond .ne 9) 64 70 0 0, r0 64 (.aload_n 0) 65, rX 65 (.iconst 1) 66 1 0 0, rX 66 (.invokevirtual 69) 69 39 0 562, r0 69 (.ireturn) 70, r0 70 (.aload_n 0) 71, rX 71 (.getfield 21) 74 2 2 245,
  r0 74 (.aload_n 0) 75, rX 75 (.getfield 44) 78 2 9 253, r0 78 (.iload_n 2) 79, rX 79 (.ifCond .eq 7) 82 86 0 0, rX 82 (.iconst 1) 83 1 0 0, rX 83 (.goto 4) 86 87 0 0, rX 86 (.iconst 2) 87 2 0 0, rX 87 (.invokevirtual 185) 90 19 0 627,
  r0 90 (.aload_n 0) 91, rX 91 (.invokevirtual 62) 94 40 0 493, rX 94 (.iconst 1) 95 1 0 0, r0 95 (.ireturn) 96]
def T_rd_takeNoise : List Row := [r0 0 (.aload_n 0) 1, rX 1 (.getfield 50) 4 2 11 255, rX 4 (.invokestatic 176) 7 273 1 624, rX 7 (.bipush 8) 9 8 0 0, rX 9 (.if_icmp .lt 9) 12 18 0 0, r0 12 (.aload_n 0) 13, rX 13 (.iconst 4) 14 4 0 0, rX 14 (.invokevirtual 69) 17 39 0 562,
  r0 17 (.ireturn) 18, r0 18 (.aload_n 0) 19, rX 19 (.invokevirtual 62) 22 40 0 493, r0 22 (.aload_n 0) 23, r0 23 (.aload_n 0) 24, rX 24 (.getfield 50) 27 2 11 255, rX 27 (.invokevirtual 164) 30 46 0 612, rX 30 (.ifCond .ne 5) 33 35 0 0,
  r0 33 (.iconst 0) 34, r0 34 (.ireturn) 35, r0 35 (.aload_n 0) 36, rX 36 (.getfield 44) 39 2 9 253, r0 39 (.istore_n 1) 40, r0 40 (.aload_n 0) 41, r0 41 (.dup) 42, rX 42 (.getfield 50) 45 2 11 255,
  rX 45 (.iconst 1) 46 1 0 0, r0 46 (.iload_n 1) 47, r0 47 (.ishl) 48, r0 48 (.ior) 49, rX 49 (.putfield 50) 52 2 11 255, r0 52 (.aload_n 0) 53, rV 53 (.ldc 189) 55 13 13 635 1, rX 55 (.invokevirtual 91) 58 43 0 510,
  r0 58 (.istore_n 2) 59, r0 59 (.iload_n 2) 60, rX 60 (.ifCond .ne 18) 63 78 0 0, r0 63 (.aload_n 0) 64, rV 64 (.ldc 191) 66 14 14 636 1, rX 66 (.invokevirtual 91) 69 43 0 510, rX 69 (.ifCond .ne 9) 72 78 0 0, r0 72 (.aload_n 0) 73,
  rX 73 (.iconst 1) 74 1 0 0, rX 74 (.invokevirtual 69) 77 39 0 562, r0 77 (.ireturn) 78, r0 78 (.aload_n 0) 79, rX 79 (.invokevirtual 62) 82 40 0 493, r0 82 (.aload_n 0) 83, rX 83 (.iconst 1) 84 1 0 0, rX 84 (.bipush 99) 86 99 0 0,
  rX 86 (.invokevirtual 101) 89 45 0 577, rX 89 (.ifCond .ne 5) 92 94 0 0, r0 92 (.iconst 0) 93, r0 93 (.ireturn) 94, r0 94 (.aload_n 0) 95, rX 95 (.getfield 21) 98 2 2 245, rX 98 (.getfield 193) 101 3 10 210, r0 101 (.iload_n 1) 102,
  r0 102 (.iload_n 2) 103, rX 103 (.ifCond .eq 10) 106 113 0 0, r0 106 (.aload_n 0) 107, rX 107 (.getfield 44) 110 2 9 253, rX 110 (.goto 8) 113 118 0 0, r0 113 (.aload_n 0) 114, rX 114 (.getfield 44) 117 2 9 253, r0 117 (.ineg) 118,
  r0 118 (.iastore) 119, rX 119 (.iconst 1) 120 1 0 0, r0 120 (.ireturn) 121]
def T_rd_takeLost : List Row := [r0 0 (.aload_n 0) 1, rX 1 (.getfield 21) 4 2 2 245, rX 4 (.invokevirtual 196) 7 13 0 641, rX 7 (.iconst 3) 8 3 0 0, rX 8 (.if_icmp .lt 9) 11 17 0 0, r0 11 (.aload_n 0) 12, rX 12 (.iconst 4) 13 4 0 0, rX 13 (.invokevirtual 69) 16 39 0 562,
  r0 16 (.ireturn) 17, r0 17 (.aload_n 0) 18, rX 18 (.invokevirtual 62) 21 40 0 493, r0 21 (.aload_n 0) 22, r0 22 (.aload_n 0) 23, rX 23 (.getfield 21) 26 2 2 245, rX 26 (.getfield 199) 29 3 7 197, rX 29 (.invokevirtual 164) 32 46 0 612,
  rX 32 (.ifCond .ne 5) 35 37 0 0, r0 35 (.iconst 0) 36, r0 36 (.ireturn) 37, r0 37 (.aload_n 0) 38, rX 38 (.getfield 21) 41 2 2 245, r0 41 (.dup) 42, rX 42 (.getfield 199) 45 3 7 197, rX 45 (.iconst 1) 46 1 0 0,
  r0 46 (.aload_n 0) 47, rX 47 (.getfield 44) 50 2 9 253, r0 50 (.ishl) 51, r0 51 (.ior) 52, rX 52 (.putfield 199) 55 3 7 197, rX 55 (.iconst 1) 56 1 0 0, r0 56 (.ireturn) 57]
def T_rd_takeMask : List Row := [r0 0 (.aload_n 0) 1, rX 1 (.getfield 21) 4 2 2 245, rX 4 (.getfield 202) 7 3 4 189, rX 7 (.bipush 12) 9 12 0 0, rX 9 (.if_icmp .lt 9) 12 18 0 0, r0 12 (.aload_n 0) 13, rX 13 (.iconst 4) 14 4 0 0, rX 14 (.invokevirtual 69) 17 39 0 562,
  r0 17 (.ireturn) 18, r0 18 (.aload_n 0) 19, rX 19 (.invokevirtual 62) 22 40 0 493, r0 22 (.iconst 0) 23, r0 23 (.istore_n 1) 24, r0 24 (.iconst 0) 25, r0 25 (.istore_n 2) 26, rH 26 (.iload_n 2) 27 0 0 0 0,
  rX 27 (.bipush 31) 29 31 0 0, rX 29 (.if_icmp .gt 40) 32 69 0 0, r0 32 (.iload_n 1) 33, rX 33 (.ifCond .eq 11) 36 44 0 0, r0 36 (.aload_n 0) 37, rX 37 (.getfield 32) 40 2 5 249, rX 40 (.iconst 2) 41 2 0 0, rX 41 (.if_icmp .ne 28) 44 69 0 0,
  r0 44 (.aload_n 0) 45, r0 45 (.iload_n 1) 46, rX 46 (.invokevirtual 164) 49 46 0 612, rX 49 (.ifCond .ne 5) 52 54 0 0, r0 52 (.iconst 0) 53, r0 53 (.ireturn) 54, r0 54 (.iload_n 1) 55, rX 55 (.iconst 1) 56 1 0 0,
  r0 56 (.aload_n 0) 57, rX 57 (.getfield 44) 60 2 9 253, r0 60 (.ishl) 61, r0 61 (.ior) 62, r0 62 (.istore_n 1) 63, rX 63 (.iinc 2 1) 66 1 0 0, rX 66 (.goto (-40)) 69 26 0 0, r0 69 (.aload_n 0) 70,
  rX 70 (.getfield 21) 73 2 2 245, rX 73 (.getfield 205) 76 3 11 214, r0 76 (.aload_n 0) 77, rX 77 (.getfield 21) 80 2 2 245, rX 80 (.getfield 202) 83 3 4 189, r0 83 (.iload_n 1) 84, r0 84 (.iastore) 85, r0 85 (.aload_n 0) 86,
  rX 86 (.getfield 21) 89 2 2 245, r0 89 (.dup) 90, rX 90 (.getfield 202) 93 3 4 189, rX 93 (.iconst 1) 94 1 0 0, r0 94 (.iadd) 95, rX 95 (.putfield 202) 98 3 4 189, rX 98 (.iconst 1) 99 1 0 0, r0 99 (.ireturn) 100]
def T_sg_init : List Row := [r0 0 (.aload_n 0) 1, rX 1 (.invokespecial 3) 4 0 4 286, r0 4 (.aload_n 0) 5, r0 5 (.iconst 0) 6, rX 6 (.putfield 9) 9 4 0 287, r0 9 (.aload_n 0) 10, r0 10 (.iconst 0) 11, rX 11 (.putfield 15) 14 4 1 289,
  r0 14 (.aload_n 0) 15, r0 15 (.iconst 0) 16, rX 16 (.putfield 18) 19 4 2 291, r0 19 (.aload_n 0) 20, r0 20 (.iconst 0) 21, rX 21 (.putfield 21) 24 4 3 294, r0 24 (.aload_n 0) 25, r0 25 (.lconst 0) 26,
  rX 26 (.putfield 25) 29 4 4 296, r0 29 (.aload_n 0) 30, rX 30 (.bipush 20) 32 20 0 0, r0 32 (.newarray .int) 34, rX 34 (.putfield 29) 37 4 5 298, r0 37 (.aload_n 0) 38, rX 38 (.bipush 20) 40 20 0 0, r0 40 (.newarray .int) 42,
  rX 42 (.putfield 33) 45 4 6 301, r0 45 (.aload_n 0) 46, rX 46 (.bipush 31) 48 31 0 0, r0 48 (.newarray .int) 50, rX 50 (.putfield 36) 53 4 7 304, r0 53 (.aload_n 0) 54, rX 54 (.bipush 31) 56 31 0 0, r0 56 (.newarray .int) 58,
  rX 58 (.putfield 39) 61 4 8 306, r0 61 (.aload_n 0) 62, rX 62 (.bipush 31) 64 31 0 0, r0 64 (.newarray .long) 66, rX 66 (.putfield 42) 69 4 9 308, r0 69 (.return_) 70]
def T_sg_startAnew : List Row := [r0 0 (.aload_n 0) 1, r0 1 (.iconst 0) 2, rX 2 (.putfield 9) 5 4 0 287, r0 5 (.aload_n 0) 6, r0 6 (.iconst 0) 7, rX 7 (.putfield 15) 10 4 1 289, r0 10 (.aload_n 0) 11, rX 11 (.invokevirtual 46) 14 57 0 653,
  r0 14 (.return_) 15]
def T_sg_forget : List Row := [r0 0 (.aload_n 0) 1, r0 1 (.iconst 0) 2, rX 2 (.putfield 18) 5 4 2 291, r0 5 (.aload_n 0) 6, r0 6 (.iconst 0) 7, rX 7 (.putfield 21) 10 4 3 294, r0 10 (.return_) 11]
def T_sg_lookAt : List Row := [r0 0 (.aload_n 0) 1, r0 1 (.dup) 2, rX 2 (.getfield 9) 5 4 0 287, rX 5 (.iconst 1) 6 1 0 0, r0 6 (.iadd) 7, rX 7 (.putfield 9) 10 4 0 287, r0 10 (.aload_n 1) 11, r0 11 (.iload_n 2) 12,
  rX 12 (.invokevirtual 49) 15 20 0 778, r0 15 (.istore_n 3) 16, r0 16 (.iload_n 3) 17, r0 17 (.aload_n 1) 18, rX 18 (.getfield 55) 21 3 3 183, rX 21 (.if_icmp .le 15) 24 36 0 0, r0 24 (.aload_n 0) 25, r0 25 (.dup) 26,
  rX 26 (.getfield 15) 29 4 1 289, rX 29 (.iconst 1) 30 1 0 0, r0 30 (.iadd) 31, rX 31 (.putfield 15) 34 4 1 289, rX 34 (.iconst (-1)) 35 1 1 0, r0 35 (.ireturn) 36, r0 36 (.iload_n 3) 37, r0 37 (.ireturn) 38]
def T_sg_keep : List Row := [r0 0 (.aload_n 0) 1, rX 1 (.getfield 18) 4 4 2 291, rX 4 (.bipush 20) 6 20 0 0, rX 6 (.if_icmp .ge 13) 9 19 0 0, r0 9 (.aload_n 0) 10, r0 10 (.dup) 11, rX 11 (.getfield 18) 14 4 2 291, rX 14 (.iconst 1) 15 1 0 0,
  r0 15 (.iadd) 16, rX 16 (.putfield 18) 19 4 2 291, r0 19 (.aload_n 0) 20, rX 20 (.getfield 18) 23 4 2 291, rX 23 (.iconst 1) 24 1 0 0, r0 24 (.isub) 25, r0 25 (.istore_n 3) 26, rH 26 (.iload_n 3) 27 0 0 0 0,
  rX 27 (.ifCond .le 37) 30 64 0 0, r0 30 (.aload_n 0) 31, rX 31 (.getfield 29) 34 4 5 298, r0 34 (.iload_n 3) 35, r0 35 (.aload_n 0) 36, rX 36 (.getfield 29) 39 4 5 298, r0 39 (.iload_n 3) 40, rX 40 (.iconst 1) 41 1 0 0,
  r0 41 (.isub) 42, r0 42 (.iaload) 43, r0 43 (.iastore) 44, r0 44 (.aload_n 0) 45, rX 45 (.getfield 33) 48 4 6 301, r0 48 (.iload_n 3) 49, r0 49 (.aload_n 0) 50, rX 50 (.getfield 33) 53 4 6 301,
  r0 53 (.iload_n 3) 54, rX 54 (.iconst 1) 55 1 0 0, r0 55 (.isub) 56, r0 56 (.iaload) 57, r0 57 (.iastore) 58, rX 58 (.iinc 3 (-1)) 61 1 1 0, rX 61 (.goto (-35)) 64 26 0 0, r0 64 (.aload_n 0) 65,
  rX 65 (.getfield 29) 68 4 5 298, r0 68 (.iconst 0) 69, r0 69 (.iload_n 1) 70, r0 70 (.iastore) 71, r0 71 (.aload_n 0) 72, rX 72 (.getfield 33) 75 4 6 301, r0 75 (.iconst 0) 76, r0 76 (.iload_n 2) 77,
  r0 77 (.iastore) 78, r0 78 (.return_) 79]
def T_sg_scanAll : List Row := [r0 0 (.aload_n 0) 1, r0 1 (.iconst 0) 2, rX 2 (.putfield 21) 5 4 3 294, r0 5 (.iconst 0) 6, r0 6 (.istore_n 2) 7, r0 7 (.iconst 0) 8, r0 8 (.istore_n 3) 9, rH 9 (.iload_n 3) 10 0 0 0 0,
  r0 10 (.aload_n 1) 11, rX 11 (.getfield 58) 14 3 0 171, rX 14 (.if_icmp .ge 55) 17 69 0 0, r0 17 (.aload_n 1) 18, r0 18 (.iload_n 3) 19, rX 19 (.invokevirtual 61) 22 12 0 798, rX 22 (.ifCond .ne 41) 25 63 0 0, r0 25 (.aload_n 0) 26,
  r0 26 (.aload_n 1) 27, r0 27 (.aload_n 1) 28, rX 28 (.getfield 65) 31 3 8 200, r0 31 (.iload_n 3) 32, r0 32 (.iaload) 33, rX 33 (.invokevirtual 68) 36 58 0 799, r0 36 (.istore 4) 38, r0 38 (.iload 4) 40,
  rX 40 (.ifCond .ge 5) 43 45 0 0, rX 43 (.iconst (-1)) 44 1 1 0, r0 44 (.ireturn) 45, r0 45 (.aload_n 0) 46, rX 46 (.getfield 36) 49 4 7 304, r0 49 (.iload_n 3) 50, r0 50 (.iload 4) 52, r0 52 (.aload_n 1) 53,
  rX 53 (.getfield 72) 56 3 10 208, r0 56 (.iload_n 3) 57, r0 57 (.iaload) 58, r0 58 (.iadd) 59, r0 59 (.iastore) 60, rX 60 (.iinc 2 1) 63 1 0 0, rX 63 (.iinc 3 1) 66 1 0 0, rX 66 (.goto (-57)) 69 9 0 0,
  r0 69 (.aload_n 0) 70, rX 70 (.iconst 1) 71 1 0 0, rX 71 (.putfield 21) 74 4 3 294, r0 74 (.aload_n 0) 75, r0 75 (.aload_n 1) 76, rX 76 (.invokevirtual 75) 79 61 0 800, r0 79 (.aload_n 0) 80, r0 80 (.aload_n 1) 81,
  rX 81 (.invokevirtual 79) 84 62 0 807, r0 84 (.iload_n 2) 85, r0 85 (.ireturn) 86]
def T_sg_findNets : List Row := [r0 0 (.iconst 0) 1, r0 1 (.istore_n 2) 2, r0 2 (.iconst 0) 3, r0 3 (.istore_n 3) 4, rH 4 (.iload_n 3) 5 0 0 0 0, r0 5 (.aload_n 1) 6, rX 6 (.getfield 58) 9 3 0 171, rX 9 (.if_icmp .ge 47) 12 56 0 0,
  r0 12 (.aload_n 0) 13, rX 13 (.getfield 39) 16 4 8 306, r0 16 (.iload_n 3) 17, r0 17 (.aload_n 1) 18, r0 18 (.iload_n 3) 19, rX 19 (.invokevirtual 61) 22 12 0 798, rX 22 (.ifCond .eq 7) 25 29 0 0, r0 25 (.iconst 0) 26,
  rX 26 (.goto 14) 29 40 0 0, r0 29 (.aload_n 0) 30, rX 30 (.getfield 36) 33 4 7 304, r0 33 (.iload_n 3) 34, r0 34 (.iaload) 35, r0 35 (.aload_n 1) 36, rX 36 (.getfield 82) 39 3 2 179, r0 39 (.isub) 40,
  r0 40 (.iastore) 41, r0 41 (.iload_n 2) 42, r0 42 (.aload_n 0) 43, rX 43 (.getfield 39) 46 4 8 306, r0 46 (.iload_n 3) 47, r0 47 (.iaload) 48, r0 48 (.iadd) 49, r0 49 (.istore_n 2) 50,
  rX 50 (.iinc 3 1) 53 1 0 0, rX 53 (.goto (-49)) 56 4 0 0, r0 56 (.aload_n 0) 57, r0 57 (.iload_n 2) 58, r0 58 (.i2l) 59, rX 59 (.putfield 25) 62 4 4 296, r0 62 (.aload_n 1) 63, rX 63 (.invokevirtual 85) 66 13 0 804,
  rX 66 (.iconst 1) 67 1 0 0, rX 67 (.if_icmp .eq 4) 70 71 0 0, r0 70 (.return_) 71, r0 71 (.aload_n 1) 72, rX 72 (.invokevirtual 89) 75 16 0 805, r0 75 (.aload_n 1) 76, rX 76 (.invokevirtual 92) 79 17 0 806, r0 79 (.imul) 80,
  r0 80 (.istore_n 3) 81, r0 81 (.iconst 0) 82, r0 82 (.istore 4) 84, rH 84 (.iload 4) 86 0 0 0 0, r0 86 (.aload_n 1) 87, rX 87 (.getfield 58) 90 3 0 171, rX 90 (.if_icmp .ge 28) 93 118 0 0, r0 93 (.aload_n 1) 94,
  r0 94 (.iload 4) 96, rX 96 (.invokevirtual 61) 99 12 0 798, rX 99 (.ifCond .eq 13) 102 112 0 0, r0 102 (.aload_n 0) 103, rX 103 (.getfield 39) 106 4 8 306, r0 106 (.iload 4) 108, r0 108 (.iload_n 3) 109, r0 109 (.iload_n 2) 110,
  r0 110 (.isub) 111, r0 111 (.iastore) 112, rX 112 (.iinc 4 1) 115 1 0 0, rX 115 (.goto (-31)) 118 84 0 0, r0 118 (.aload_n 0) 119, r0 119 (.iload_n 3) 120, r0 120 (.i2l) 121, rX 121 (.putfield 25) 124 4 4 296,
  r0 124 (.return_) 125]
def T_sg_findBacks : List Row := [r0 0 (.iconst 0) 1, r0 1 (.istore_n 2) 2, rH 2 (.iload_n 2) 3 0 0 0 0, r0 3 (.aload_n 1) 4, rX 4 (.getfield 58) 7 3 0 171, rX 7 (.if_icmp .ge 75) 10 82 0 0, r0 10 (.lconst 0) 11, r0 11 (.lstore_n 3) 12,
  r0 12 (.iconst 0) 13, r0 13 (.istore 5) 15, rH 15 (.iload 5) 17 0 0 0 0, r0 17 (.aload_n 1) 18, rX 18 (.getfield 58) 21 3 0 171, rX 21 (.if_icmp .ge 35) 24 56 0 0, r0 24 (.aload_n 1) 25, rX 25 (.getfield 65) 28 3 8 200,
  r0 28 (.iload 5) 30, r0 30 (.iaload) 31, r0 31 (.iload_n 2) 32, r0 32 (.ishr) 33, rX 33 (.iconst 1) 34 1 0 0, r0 34 (.iand) 35, rX 35 (.iconst 1) 36 1 0 0, rX 36 (.if_icmp .ne 14) 39 50 0 0,
  r0 39 (.lload_n 3) 40, r0 40 (.aload_n 0) 41, rX 41 (.getfield 39) 44 4 8 306, r0 44 (.iload 5) 46, r0 46 (.iaload) 47, r0 47 (.i2l) 48, r0 48 (.ladd) 49, r0 49 (.lstore_n 3) 50,
  rX 50 (.iinc 5 1) 53 1 0 0, rX 53 (.goto (-38)) 56 15 0 0, r0 56 (.aload_n 0) 57, rX 57 (.getfield 42) 60 4 9 308, r0 60 (.iload_n 2) 61, rX 61 (.ldc2_w 95) 64 4 0 811, r0 64 (.lload_n 3) 65, r0 65 (.lmul) 66,
  rX 66 (.ldc2_w 97) 69 2 0 812, r0 69 (.aload_n 0) 70, rX 70 (.getfield 25) 73 4 4 296, r0 73 (.lmul) 74, r0 74 (.lsub) 75, r0 75 (.lastore) 76, rX 76 (.iinc 2 1) 79 1 0 0, rX 79 (.goto (-77)) 82 2 0 0,
  r0 82 (.return_) 83]
def T_sg_errorOf : List Row := [r0 0 (.aload_n 1) 1, r0 1 (.iload_n 2) 2, rX 2 (.invokevirtual 99) 5 9 0 872, rX 5 (.ifCond .ne 5) 8 10 0 0, r0 8 (.lconst 0) 9, r0 9 (.lreturn) 10, r0 10 (.aload_n 0) 11, rX 11 (.getfield 42) 14 4 9 308,
  r0 14 (.iload_n 2) 15, r0 15 (.laload) 16, r0 16 (.aload_n 1) 17, rX 17 (.getfield 102) 20 3 9 204, r0 20 (.iload_n 2) 21, r0 21 (.iaload) 22, r0 22 (.i2l) 23, r0 23 (.aload_n 1) 24,
  rX 24 (.invokevirtual 105) 27 14 0 873, r0 27 (.lmul) 28, r0 28 (.lsub) 29, r0 29 (.lreturn) 30]
def T_su_init : List Row := [r0 0 (.aload_n 0) 1, rX 1 (.invokespecial 3) 4 0 4 338, r0 4 (.aload_n 0) 5, rX 5 (.bipush 31) 7 31 0 0, r0 7 (.newarray .int) 9, rX 9 (.putfield 9) 12 5 0 339, r0 12 (.return_) 13]
def T_su_count : List Row := [r0 0 (.iconst 0) 1, r0 1 (.istore_n 3) 2, r0 2 (.iconst 0) 3, r0 3 (.istore 4) 5, rH 5 (.iload 4) 7 0 0 0 0, rX 7 (.iconst 2) 8 2 0 0, r0 8 (.aload_n 1) 9, rX 9 (.getfield 15) 12 3 0 169,
  r0 12 (.imul) 13, rX 13 (.if_icmp .gt 23) 16 36 0 0, r0 16 (.aload_n 0) 17, r0 17 (.iload 4) 19, r0 19 (.aload_n 1) 20, r0 20 (.aload_n 2) 21, rX 21 (.invokevirtual 21) 24 67 0 931, rX 24 (.ifCond .eq 6) 27 30 0 0,
  rX 27 (.iinc 3 1) 30 1 0 0, rX 30 (.iinc 4 1) 33 1 0 0, rX 33 (.goto (-28)) 36 5 0 0, r0 36 (.iload_n 3) 37, r0 37 (.ireturn) 38]
def T_su_numberOf : List Row := [r0 0 (.iconst 0) 1, r0 1 (.istore 4) 3, r0 3 (.iconst 0) 4, r0 4 (.istore 5) 6, rH 6 (.iload 5) 8 0 0 0 0, rX 8 (.iconst 2) 9 2 0 0, r0 9 (.aload_n 2) 10, rX 10 (.getfield 15) 13 3 0 169,
  r0 13 (.imul) 14, rX 14 (.if_icmp .gt 32) 17 46 0 0, r0 17 (.aload_n 0) 18, r0 18 (.iload 5) 20, r0 20 (.aload_n 2) 21, r0 21 (.aload_n 3) 22, rX 22 (.invokevirtual 21) 25 67 0 931, rX 25 (.ifCond .eq 15) 28 40 0 0,
  r0 28 (.iload 4) 30, r0 30 (.iload_n 1) 31, rX 31 (.if_icmp .ne 6) 34 37 0 0, r0 34 (.iload 5) 36, r0 36 (.ireturn) 37, rX 37 (.iinc 4 1) 40 1 0 0, rX 40 (.iinc 5 1) 43 1 0 0, rX 43 (.goto (-37)) 46 6 0 0,
  rX 46 (.iconst (-1)) 47 1 1 0, r0 47 (.ireturn) 48]
def T_su_holds : List Row := [r0 0 (.iload_n 1) 1, rX 1 (.ifCond .ne 37) 4 38 0 0, r0 4 (.aload_n 0) 5, r0 5 (.aload_n 2) 6, r0 6 (.aload_n 3) 7, rX 7 (.invokevirtual 25) 10 68 0 935, rX 10 (.ifCond .eq 26) 13 36 0 0, r0 13 (.aload_n 0) 14,
  r0 14 (.aload_n 2) 15, rX 15 (.invokevirtual 29) 18 72 0 945, rX 18 (.ifCond .eq 18) 21 36 0 0, r0 21 (.aload_n 0) 22, r0 22 (.aload_n 2) 23, r0 23 (.aload_n 3) 24, r0 24 (.iconst 0) 25, r0 25 (.iconst 0) 26,
  rX 26 (.invokevirtual 33) 29 73 0 950, rX 29 (.ifCond .eq 7) 32 36 0 0, rX 32 (.iconst 1) 33 1 0 0, rX 33 (.goto 4) 36 37 0 0, r0 36 (.iconst 0) 37, r0 37 (.ireturn) 38, r0 38 (.iload_n 1) 39, rX 39 (.iconst 1) 40 1 0 0,
  r0 40 (.isub) 41, rX 41 (.iconst 2) 42 2 0 0, r0 42 (.idiv) 43, r0 43 (.istore 4) 45, r0 45 (.aload_n 2) 46, r0 46 (.iload 4) 48, rX 48 (.invokevirtual 37) 51 9 0 954, rX 51 (.ifCond .ne 5) 54 56 0 0,
  r0 54 (.iconst 0) 55, r0 55 (.ireturn) 56, r0 56 (.iload_n 1) 57, rX 57 (.iconst 1) 58 1 0 0, r0 58 (.iand) 59, rX 59 (.iconst 1) 60 1 0 0, rX 60 (.if_icmp .ne 42) 63 102 0 0, r0 63 (.aload_n 0) 64,
  r0 64 (.iload 4) 66, r0 66 (.aload_n 2) 67, r0 67 (.aload_n 3) 68, rX 68 (.invokevirtual 41) 71 69 0 955, rX 71 (.ifCond .eq 29) 74 100 0 0, r0 74 (.aload_n 0) 75, r0 75 (.aload_n 2) 76, rX 76 (.invokevirtual 29) 79 72 0 945,
  rX 79 (.ifCond .eq 21) 82 100 0 0, r0 82 (.aload_n 0) 83, r0 83 (.aload_n 2) 84, r0 84 (.aload_n 3) 85, rX 85 (.iconst 1) 86 1 0 0, r0 86 (.iload 4) 88, r0 88 (.ishl) 89, r0 89 (.iconst 0) 90,
  rX 90 (.invokevirtual 33) 93 73 0 950, rX 93 (.ifCond .eq 7) 96 100 0 0, rX 96 (.iconst 1) 97 1 0 0, rX 97 (.goto 4) 100 101 0 0, r0 100 (.iconst 0) 101, r0 101 (.ireturn) 102, r0 102 (.aload_n 0) 103, r0 103 (.iload 4) 105,
  r0 105 (.aload_n 2) 106, r0 106 (.aload_n 3) 107, rX 107 (.invokevirtual 44) 110 70 0 960, rX 110 (.ifCond .eq 29) 113 139 0 0, r0 113 (.aload_n 0) 114, r0 114 (.aload_n 2) 115, rX 115 (.invokevirtual 29) 118 72 0 945, rX 118 (.ifCond .eq 21) 121 139 0 0,
  r0 121 (.aload_n 0) 122, r0 122 (.aload_n 2) 123, r0 123 (.aload_n 3) 124, r0 124 (.iconst 0) 125, rX 125 (.iconst 1) 126 1 0 0, r0 126 (.iload 4) 128, r0 128 (.ishl) 129, rX 129 (.invokevirtual 33) 132 73 0 950,
  rX 132 (.ifCond .eq 7) 135 139 0 0, rX 135 (.iconst 1) 136 1 0 0, rX 136 (.goto 4) 139 140 0 0, r0 139 (.iconst 0) 140, r0 140 (.ireturn) 141]
def T_su_supposeFine : List Row := [r0 0 (.iconst 0) 1, r0 1 (.istore_n 3) 2, rH 2 (.iload_n 3) 3 0 0 0 0, r0 3 (.aload_n 1) 4, rX 4 (.getfield 15) 7 3 0 169, rX 7 (.if_icmp .ge 29) 10 36 0 0, r0 10 (.aload_n 0) 11, r0 11 (.iload_n 3) 12,
  r0 12 (.aload_n 2) 13, rX 13 (.getfield 47) 16 4 9 309, r0 16 (.iload_n 3) 17, r0 17 (.laload) 18, r0 18 (.aload_n 1) 19, rX 19 (.invokevirtual 53) 22 14 0 939, rX 22 (.invokevirtual 57) 25 71 0 940, rX 25 (.ifCond .ne 5) 28 30 0 0,
  r0 28 (.iconst 0) 29, r0 29 (.ireturn) 30, rX 30 (.iinc 3 1) 33 1 0 0, rX 33 (.goto (-31)) 36 2 0 0, rX 36 (.iconst 1) 37 1 0 0, r0 37 (.ireturn) 38]
def T_su_supposeOpen : List Row := [r0 0 (.aload_n 3) 1, rX 1 (.getfield 47) 4 4 9 309, r0 4 (.iload_n 1) 5, r0 5 (.laload) 6, r0 6 (.lstore 4) 8, r0 8 (.iconst 0) 9, r0 9 (.istore 6) 11, rH 11 (.iload 6) 13 0 0 0 0,
  r0 13 (.aload_n 2) 14, rX 14 (.getfield 15) 17 3 0 169, rX 17 (.if_icmp .ge 58) 20 75 0 0, r0 20 (.iload 6) 22, r0 22 (.iload_n 1) 23, rX 23 (.if_icmp .ne 17) 26 40 0 0, r0 26 (.aload_n 0) 27, r0 27 (.iload 6) 29,
  r0 29 (.lload 4) 31, rX 31 (.ldc2_w 61) 34 2 0 959, rX 34 (.invokevirtual 57) 37 71 0 940, rX 37 (.goto 23) 40 60 0 0, r0 40 (.aload_n 0) 41, r0 41 (.iload 6) 43, r0 43 (.aload_n 3) 44, rX 44 (.getfield 47) 47 4 9 309,
  r0 47 (.iload 6) 49, r0 49 (.laload) 50, r0 50 (.lload 4) 52, r0 52 (.lsub) 53, r0 53 (.aload_n 2) 54, rX 54 (.invokevirtual 53) 57 14 0 939, rX 57 (.invokevirtual 57) 60 71 0 940, r0 60 (.istore 7) 62,
  r0 62 (.iload 7) 64, rX 64 (.ifCond .ne 5) 67 69 0 0, r0 67 (.iconst 0) 68, r0 68 (.ireturn) 69, rX 69 (.iinc 6 1) 72 1 0 0, rX 72 (.goto (-61)) 75 11 0 0, rX 75 (.iconst 1) 76 1 0 0, r0 76 (.ireturn) 77]
def T_su_supposeShut : List Row := [r0 0 (.aload_n 3) 1, rX 1 (.getfield 47) 4 4 9 309, r0 4 (.iload_n 1) 5, r0 5 (.laload) 6, r0 6 (.lconst 0) 7, r0 7 (.lcmp) 8, rX 8 (.ifCond .eq 5) 11 13 0 0, r0 11 (.iconst 0) 12,
  r0 12 (.ireturn) 13, r0 13 (.aload_n 2) 14, rX 14 (.invokevirtual 63) 17 17 0 949, r0 17 (.i2l) 18, r0 18 (.lstore 4) 20, r0 20 (.iconst 0) 21, r0 21 (.istore 6) 23, rH 23 (.iload 6) 25 0 0 0 0,
  r0 25 (.aload_n 2) 26, rX 26 (.getfield 15) 29 3 0 169, rX 29 (.if_icmp .ge 50) 32 79 0 0, r0 32 (.iload 6) 34, r0 34 (.iload_n 1) 35, rX 35 (.if_icmp .eq 38) 38 73 0 0, r0 38 (.aload_n 0) 39, r0 39 (.iload 6) 41,
  r0 41 (.aload_n 3) 42, rX 42 (.getfield 47) 45 4 9 309, r0 45 (.iload 6) 47, r0 47 (.laload) 48, r0 48 (.aload_n 2) 49, rX 49 (.invokevirtual 53) 52 14 0 939, rX 52 (.invokevirtual 57) 55 71 0 940, rX 55 (.ifCond .ne 5) 58 60 0 0,
  r0 58 (.iconst 0) 59, r0 59 (.ireturn) 60, r0 60 (.lload 4) 62, r0 62 (.aload_n 0) 63, rX 63 (.getfield 9) 66 5 0 339, r0 66 (.iload 6) 68, r0 68 (.iaload) 69, r0 69 (.i2l) 70,
  r0 70 (.lsub) 71, r0 71 (.lstore 4) 73, rX 73 (.iinc 6 1) 76 1 0 0, rX 76 (.goto (-53)) 79 23 0 0, r0 79 (.aload_n 0) 80, r0 80 (.iload_n 1) 81, r0 81 (.lload 4) 83, rX 83 (.lconst 1) 84 1 0 0,
  rX 84 (.invokevirtual 57) 87 71 0 940, r0 87 (.ireturn) 88]
def T_su_put : List Row := [r0 0 (.iload_n 1) 1, rX 1 (.ifCond .lt 25) 4 26 0 0, r0 4 (.iload_n 1) 5, rX 5 (.bipush 31) 7 31 0 0, rX 7 (.if_icmp .ge 19) 10 26 0 0, r0 10 (.lload 4) 12, r0 12 (.lconst 0) 13, r0 13 (.lcmp) 14,
  rX 14 (.ifCond .le 12) 17 26 0 0, r0 17 (.lload_n 2) 18, r0 18 (.lload 4) 20, r0 20 (.lrem) 21, r0 21 (.lconst 0) 22, r0 22 (.lcmp) 23, rX 23 (.ifCond .eq 5) 26 28 0 0, r0 26 (.iconst 0) 27,
  r0 27 (.ireturn) 28, r0 28 (.lload_n 2) 29, r0 29 (.lload 4) 31, r0 31 (.ldiv) 32, r0 32 (.lstore 6) 34, r0 34 (.lload 6) 36, r0 36 (.lconst 0) 37, r0 37 (.lcmp) 38,
  rX 38 (.ifCond .lt 12) 41 50 0 0, r0 41 (.lload 6) 43, rX 43 (.ldc2_w 67) 46 9999 0 944, r0 46 (.lcmp) 47, rX 47 (.ifCond .le 5) 50 52 0 0, r0 50 (.iconst 0) 51, r0 51 (.ireturn) 52, r0 52 (.aload_n 0) 53,
  rX 53 (.getfield 9) 56 5 0 339, r0 56 (.iload_n 1) 57, r0 57 (.lload 6) 59, r0 59 (.l2i) 60, r0 60 (.iastore) 61, rX 61 (.iconst 1) 62 1 0 0, r0 62 (.ireturn) 63]
def T_su_sumIsRight : List Row := [r0 0 (.iconst 0) 1, r0 1 (.istore_n 2) 2, r0 2 (.iconst 0) 3, r0 3 (.istore_n 3) 4, rH 4 (.iload_n 3) 5 0 0 0 0, r0 5 (.aload_n 1) 6, rX 6 (.getfield 15) 9 3 0 169, rX 9 (.if_icmp .ge 18) 12 27 0 0,
  r0 12 (.iload_n 2) 13, r0 13 (.aload_n 0) 14, rX 14 (.getfield 9) 17 5 0 339, r0 17 (.iload_n 3) 18, r0 18 (.iaload) 19, r0 19 (.iadd) 20, r0 20 (.istore_n 2) 21, rX 21 (.iinc 3 1) 24 1 0 0,
  rX 24 (.goto (-20)) 27 4 0 0, r0 27 (.iload_n 2) 28, r0 28 (.aload_n 1) 29, rX 29 (.invokevirtual 63) 32 17 0 949, rX 32 (.if_icmp .ne 7) 35 39 0 0, rX 35 (.iconst 1) 36 1 0 0, rX 36 (.goto 4) 39 40 0 0, r0 39 (.iconst 0) 40,
  r0 40 (.ireturn) 41]
def T_su_logIsRight : List Row := [r0 0 (.iconst 0) 1, r0 1 (.istore 5) 3, rH 3 (.iload 5) 5 0 0 0 0, r0 5 (.aload_n 2) 6, rX 6 (.getfield 69) 9 4 2 292, rX 9 (.if_icmp .ge 86) 12 95 0 0, r0 12 (.aload_n 2) 13, rX 13 (.getfield 72) 16 4 5 299,
  r0 16 (.iload 5) 18, r0 18 (.iaload) 19, r0 19 (.iload 4) 21, rX 21 (.iconst (-1)) 22 1 1 0, r0 22 (.ixor) 23, r0 23 (.iand) 24, r0 24 (.iload_n 3) 25, r0 25 (.ior) 26,
  r0 26 (.istore 6) 28, r0 28 (.aload_n 1) 29, rX 29 (.getfield 75) 32 3 2 180, r0 32 (.istore 7) 34, r0 34 (.iconst 0) 35, r0 35 (.istore 8) 37, rH 37 (.iload 8) 39 0 0 0 0, r0 39 (.aload_n 1) 40,
  rX 40 (.getfield 15) 43 3 0 169, rX 43 (.if_icmp .ge 32) 46 75 0 0, r0 46 (.iload 6) 48, r0 48 (.iload 8) 50, r0 50 (.ishr) 51, rX 51 (.iconst 1) 52 1 0 0, r0 52 (.iand) 53, rX 53 (.iconst 1) 54 1 0 0,
  rX 54 (.if_icmp .ne 15) 57 69 0 0, r0 57 (.iload 7) 59, r0 59 (.aload_n 0) 60, rX 60 (.getfield 9) 63 5 0 339, r0 63 (.iload 8) 65, r0 65 (.iaload) 66, r0 66 (.iadd) 67, r0 67 (.istore 7) 69,
  rX 69 (.iinc 8 1) 72 1 0 0, rX 72 (.goto (-35)) 75 37 0 0, r0 75 (.iload 7) 77, r0 77 (.aload_n 2) 78, rX 78 (.getfield 78) 81 4 6 302, r0 81 (.iload 5) 83, r0 83 (.iaload) 84, rX 84 (.if_icmp .eq 5) 87 89 0 0,
  r0 87 (.iconst 0) 88, r0 88 (.ireturn) 89, rX 89 (.iinc 5 1) 92 1 0 0, rX 92 (.goto (-89)) 95 3 0 0, rX 95 (.iconst 1) 96 1 0 0, r0 96 (.ireturn) 97]
def T_tp_init : List Row := [r0 0 (.aload_n 0) 1, rX 1 (.invokespecial 3) 4 0 4 145, r0 4 (.aload_n 0) 5, rX 5 (.sipush 800) 8 800 0 0, r0 8 (.newarray .int) 10, rX 10 (.putfield 9) 13 1 0 146, r0 13 (.aload_n 0) 14, r0 14 (.iconst 0) 15,
  rX 15 (.putfield 15) 18 1 1 148, r0 18 (.return_) 19]
def T_tp_hasRoom : List Row := [r0 0 (.aload_n 0) 1, rX 1 (.getfield 15) 4 1 1 148, rX 4 (.bipush 20) 6 20 0 0, r0 6 (.iadd) 7, rX 7 (.sipush 800) 10 800 0 0, rX 10 (.if_icmp .gt 7) 13 17 0 0, rX 13 (.iconst 1) 14 1 0 0, rX 14 (.goto 4) 17 18 0 0,
  r0 17 (.iconst 0) 18, r0 18 (.ireturn) 19]
def T_tp_put : List Row := [rX 0 (.bipush 24) 2 24 0 0, r0 2 (.istore_n 2) 3, rH 3 (.iload_n 2) 4 0 0 0 0, rX 4 (.ifCond .lt 45) 7 49 0 0, r0 7 (.aload_n 0) 8, rX 8 (.getfield 15) 11 1 1 148, rX 11 (.sipush 800) 14 800 0 0, rX 14 (.if_icmp .ge 35) 17 49 0 0,
  r0 17 (.aload_n 0) 18, rX 18 (.getfield 9) 21 1 0 146, r0 21 (.aload_n 0) 22, rX 22 (.getfield 15) 25 1 1 148, r0 25 (.iload_n 1) 26, r0 26 (.iload_n 2) 27, r0 27 (.iushr) 28, rX 28 (.sipush 255) 31 255 0 0,
  r0 31 (.iand) 32, r0 32 (.iastore) 33, r0 33 (.aload_n 0) 34, r0 34 (.dup) 35, rX 35 (.getfield 15) 38 1 1 148, rX 38 (.iconst 1) 39 1 0 0, r0 39 (.iadd) 40, rX 40 (.putfield 15) 43 1 1 148,
  rX 43 (.iinc 2 (-8)) 46 8 1 0, rX 46 (.goto (-43)) 49 3 0 0, r0 49 (.return_) 50]
def T_tr_init : List Row := [r0 0 (.aload_n 0) 1, rX 1 (.invokespecial 3) 4 0 4 380, r0 4 (.aload_n 0) 5, r0 5 (.iconst 0) 6, rX 6 (.putfield 9) 9 7 0 381, r0 9 (.aload_n 0) 10, r0 10 (.iconst 0) 11, rX 11 (.putfield 15) 14 7 1 383,
  r0 14 (.aload_n 0) 15, rX 15 (.bipush 12) 17 12 0 0, r0 17 (.newarray .int) 19, rX 19 (.putfield 19) 22 7 2 385, r0 22 (.aload_n 0) 23, rX 23 (.sipush 156) 26 156 0 0, r0 26 (.newarray .int) 28, rX 28 (.putfield 23) 31 7 3 387,
  r0 31 (.aload_n 0) 32, r0 32 (.iconst 0) 33, r0 33 (.newarray .int) 35, rX 35 (.putfield 26) 38 7 4 388, r0 38 (.aload_n 0) 39, r0 39 (.iconst 0) 40, rX 40 (.putfield 29) 43 7 5 389, r0 43 (.return_) 44]
def T_tr_find : List Row := [r0 0 (.aload_n 0) 1, rX 1 (.getfield 9) 4 7 0 381, rX 4 (.ifCond .eq 4) 7 8 0 0, r0 7 (.return_) 8, r0 8 (.aload_n 0) 9, rX 9 (.iconst 1) 10 1 0 0, rX 10 (.putfield 9) 13 7 0 381, r0 13 (.aload_n 0) 14,
  r0 14 (.aload_n 1) 15, rX 15 (.getfield 32) 18 3 4 188, rX 18 (.bipush 12) 20 12 0 0, rX 20 (.invokestatic 37) 23 0 6 1047, rX 23 (.putfield 29) 26 7 5 389, r0 26 (.aload_n 0) 27, r0 27 (.aload_n 1) 28, rX 28 (.invokevirtual 43) 31 79 0 1048,
  r0 31 (.aload_n 0) 32, rX 32 (.getfield 26) 35 7 4 388, r0 35 (.arraylength) 36, r0 36 (.aload_n 0) 37, rX 37 (.getfield 29) 40 7 5 389, r0 40 (.aload_n 0) 41, rX 41 (.getfield 29) 44 7 5 389, r0 44 (.ishl) 45,
  rX 45 (.if_icmp .ge 18) 48 63 0 0, r0 48 (.aload_n 0) 49, r0 49 (.aload_n 0) 50, rX 50 (.getfield 29) 53 7 5 389, r0 53 (.aload_n 0) 54, rX 54 (.getfield 29) 57 7 5 389, r0 57 (.ishl) 58, r0 58 (.newarray .int) 60,
  rX 60 (.putfield 26) 63 7 4 388, rX 63 (.iconst 1) 64 1 0 0, r0 64 (.aload_n 0) 65, rX 65 (.getfield 29) 68 7 5 389, r0 68 (.ishl) 69, rX 69 (.iconst 1) 70 1 0 0, r0 70 (.isub) 71, r0 71 (.istore_n 2) 72,
  rH 72 (.iload_n 2) 73 0 0 0 0, rX 73 (.ifCond .le 53) 76 126 0 0, r0 76 (.iconst 0) 77, r0 77 (.istore_n 3) 78, rH 78 (.iload_n 3) 79 0 0 0 0, r0 79 (.aload_n 0) 80, rX 80 (.getfield 29) 83 7 5 389, rX 83 (.if_icmp .ge 37) 86 120 0 0,
  r0 86 (.iload_n 2) 87, r0 87 (.iload_n 3) 88, r0 88 (.ishr) 89, rX 89 (.iconst 1) 90 1 0 0, r0 90 (.iand) 91, rX 91 (.iconst 1) 92 1 0 0, rX 92 (.if_icmp .ne 22) 95 114 0 0, r0 95 (.aload_n 0) 96,
  rX 96 (.getfield 26) 99 7 4 388, r0 99 (.iload_n 2) 100, r0 100 (.aload_n 0) 101, rX 101 (.getfield 29) 104 7 5 389, r0 104 (.imul) 105, r0 105 (.iload_n 3) 106, r0 106 (.iadd) 107, r0 107 (.aload_n 0) 108,
  r0 108 (.iload_n 2) 109, r0 109 (.iload_n 3) 110, rX 110 (.invokevirtual 47) 113 80 0 1053, r0 113 (.iastore) 114, rX 114 (.iinc 3 1) 117 1 0 0, rX 117 (.goto (-39)) 120 78 0 0, rX 120 (.iinc 2 (-1)) 123 1 1 0, rX 123 (.goto (-51)) 126 72 0 0,
  r0 126 (.aload_n 0) 127, r0 127 (.aload_n 0) 128, r0 128 (.iconst 0) 129, rX 129 (.bipush 12) 131 12 0 0, rX 131 (.invokevirtual 47) 134 80 0 1053, rX 134 (.putfield 15) 137 7 1 383, r0 137 (.aload_n 0) 138, rX 138 (.invokevirtual 50) 141 82 0 1064,
  r0 141 (.return_) 142]
def T_tr_findSteps : List Row := [r0 0 (.iconst 0) 1, r0 1 (.istore_n 2) 2, rH 2 (.iload_n 2) 3 0 0 0 0, rX 3 (.bipush 12) 5 12 0 0, rX 5 (.if_icmp .gt 70) 8 75 0 0, r0 8 (.iload_n 2) 9, r0 9 (.aload_n 0) 10, rX 10 (.getfield 29) 13 7 5 389,
  rX 13 (.if_icmp .ge 12) 16 25 0 0, r0 16 (.aload_n 1) 17, rX 17 (.getfield 53) 20 3 11 212, r0 20 (.iload_n 2) 21, r0 21 (.iaload) 22, rX 22 (.goto 4) 25 26 0 0, r0 25 (.iconst 0) 26, r0 26 (.istore_n 3) 27,
  r0 27 (.iconst 0) 28, r0 28 (.istore 4) 30, rH 30 (.iload 4) 32 0 0 0 0, r0 32 (.aload_n 0) 33, rX 33 (.getfield 29) 36 7 5 389, rX 36 (.if_icmp .ge 33) 39 69 0 0, r0 39 (.aload_n 0) 40, rX 40 (.getfield 23) 43 7 3 387,
  r0 43 (.iload_n 2) 44, rX 44 (.bipush 12) 46 12 0 0, r0 46 (.imul) 47, r0 47 (.iload 4) 49, r0 49 (.iadd) 50, r0 50 (.iload_n 3) 51, r0 51 (.aload_n 1) 52, rX 52 (.getfield 53) 55 3 11 212,
  r0 55 (.iload 4) 57, r0 57 (.iaload) 58, r0 58 (.ixor) 59, rX 59 (.invokestatic 56) 62 273 1 1052, r0 62 (.iastore) 63, rX 63 (.iinc 4 1) 66 1 0 0, rX 66 (.goto (-36)) 69 30 0 0, rX 69 (.iinc 2 1) 72 1 0 0,
  rX 72 (.goto (-70)) 75 2 0 0, r0 75 (.return_) 76]
def T_tr_fewestFrom : List Row := [rX 0 (.iconst (-1)) 1 1 1 0, r0 1 (.istore_n 3) 2, r0 2 (.iconst 0) 3, r0 3 (.istore 4) 5, rH 5 (.iload 4) 7 0 0 0 0, r0 7 (.aload_n 0) 8, rX 8 (.getfield 29) 11 7 5 389, rX 11 (.if_icmp .ge 41) 14 52 0 0,
  r0 14 (.iload_n 1) 15, r0 15 (.iload 4) 17, r0 17 (.ishr) 18, rX 18 (.iconst 1) 19 1 0 0, r0 19 (.iand) 20, rX 20 (.ifCond .ne 26) 23 46 0 0, r0 23 (.aload_n 0) 24, r0 24 (.iload_n 1) 25,
  r0 25 (.iload_n 2) 26, r0 26 (.iload 4) 28, rX 28 (.invokevirtual 62) 31 81 0 1057, r0 31 (.istore 5) 33, r0 33 (.iload_n 3) 34, rX 34 (.ifCond .lt 9) 37 43 0 0, r0 37 (.iload 5) 39, r0 39 (.iload_n 3) 40,
  rX 40 (.if_icmp .ge 6) 43 46 0 0, r0 43 (.iload 5) 45, r0 45 (.istore_n 3) 46, rX 46 (.iinc 4 1) 49 1 0 0, rX 49 (.goto (-44)) 52 5 0 0, r0 52 (.iload_n 3) 53, r0 53 (.iconst 0) 54, rX 54 (.invokestatic 66) 57 0 5 1061,
  r0 57 (.ireturn) 58]
def T_tr_movesBy : List Row := [r0 0 (.aload_n 0) 1, rX 1 (.getfield 23) 4 7 3 387, r0 4 (.iload_n 2) 5, rX 5 (.bipush 12) 7 12 0 0, r0 7 (.imul) 8, r0 8 (.iload_n 3) 9, r0 9 (.iadd) 10, r0 10 (.iaload) 11,
  r0 11 (.aload_n 0) 12, rX 12 (.getfield 26) 15 7 4 388, r0 15 (.iload_n 1) 16, rX 16 (.iconst 1) 17 1 0 0, r0 17 (.iload_n 3) 18, r0 18 (.ishl) 19, r0 19 (.ior) 20, r0 20 (.aload_n 0) 21,
  rX 21 (.getfield 29) 24 7 5 389, r0 24 (.imul) 25, r0 25 (.iload_n 3) 26, r0 26 (.iadd) 27, r0 27 (.iaload) 28, r0 28 (.iadd) 29, r0 29 (.ireturn) 30]
def T_tr_walk : List Row := [r0 0 (.iconst 0) 1, r0 1 (.istore_n 1) 2, rX 2 (.bipush 12) 4 12 0 0, r0 4 (.istore_n 2) 5, r0 5 (.iconst 0) 6, r0 6 (.istore_n 3) 7, rH 7 (.iload_n 3) 8 0 0 0 0, r0 8 (.aload_n 0) 9,
  rX 9 (.getfield 29) 12 7 5 389, rX 12 (.if_icmp .ge 35) 15 47 0 0, r0 15 (.aload_n 0) 16, r0 16 (.iload_n 1) 17, r0 17 (.iload_n 2) 18, rX 18 (.invokevirtual 69) 21 83 0 1068, r0 21 (.istore 4) 23, r0 23 (.aload_n 0) 24,
  rX 24 (.getfield 19) 27 7 2 385, r0 27 (.iload_n 3) 28, r0 28 (.iload 4) 30, r0 30 (.iastore) 31, r0 31 (.iload_n 1) 32, rX 32 (.iconst 1) 33 1 0 0, r0 33 (.iload 4) 35, r0 35 (.ishl) 36,
  r0 36 (.ior) 37, r0 37 (.istore_n 1) 38, r0 38 (.iload 4) 40, r0 40 (.istore_n 2) 41, rX 41 (.iinc 3 1) 44 1 0 0, rX 44 (.goto (-37)) 47 7 0 0, r0 47 (.return_) 48]
def T_tr_nextOf : List Row := [r0 0 (.aload_n 0) 1, r0 1 (.iload_n 1) 2, r0 2 (.iload_n 2) 3, rX 3 (.invokevirtual 47) 6 80 0 1053, r0 6 (.istore_n 3) 7, r0 7 (.iconst 0) 8, r0 8 (.istore 4) 10, rH 10 (.iload 4) 12 0 0 0 0,
  r0 12 (.aload_n 0) 13, rX 13 (.getfield 29) 16 7 5 389, rX 16 (.if_icmp .ge 33) 19 49 0 0, r0 19 (.iload_n 1) 20, r0 20 (.iload 4) 22, r0 22 (.ishr) 23, rX 23 (.iconst 1) 24 1 0 0, r0 24 (.iand) 25,
  rX 25 (.ifCond .ne 18) 28 43 0 0, r0 28 (.aload_n 0) 29, r0 29 (.iload_n 1) 30, r0 30 (.iload_n 2) 31, r0 31 (.iload 4) 33, rX 33 (.invokevirtual 62) 36 81 0 1057, r0 36 (.iload_n 3) 37, rX 37 (.if_icmp .ne 6) 40 43 0 0,
  r0 40 (.iload 4) 42, r0 42 (.ireturn) 43, rX 43 (.iinc 4 1) 46 1 0 0, rX 46 (.goto (-36)) 49 10 0 0, r0 49 (.iconst 0) 50, r0 50 (.ireturn) 51]
def T_w_init : List Row := [r0 0 (.aload_n 0) 1, rX 1 (.invokespecial 1) 4 0 4 137, r0 4 (.aload_n 0) 5, rX 5 (.new 7) 8 1 0 140, r0 8 (.dup) 9, rX 9 (.invokespecial 9) 12 74 3 0, rX 12 (.putfield 10) 15 0 0 425, r0 15 (.aload_n 0) 16,
  rX 16 (.new 16) 19 2 0 156, r0 19 (.dup) 20, rX 20 (.invokespecial 18) 23 37 3 1, rX 23 (.putfield 19) 26 0 1 426, r0 26 (.aload_n 0) 27, rX 27 (.new 23) 30 4 0 281, r0 30 (.dup) 31, rX 31 (.invokespecial 25) 34 55 3 2,
  rX 34 (.putfield 26) 37 0 2 427, r0 37 (.aload_n 0) 38, rX 38 (.new 30) 41 5 0 333, r0 41 (.dup) 42, rX 42 (.invokespecial 32) 45 64 3 3, rX 45 (.putfield 33) 48 0 3 428, r0 48 (.aload_n 0) 49, rX 49 (.new 37) 52 6 0 344,
  r0 52 (.dup) 53, rX 53 (.invokespecial 39) 56 22 3 4, rX 56 (.putfield 40) 59 0 4 429, r0 59 (.aload_n 0) 60, rX 60 (.new 44) 63 7 0 375, r0 63 (.dup) 64, rX 64 (.invokespecial 46) 67 77 3 5, rX 67 (.putfield 47) 70 0 5 430,
  r0 70 (.aload_n 0) 71, rX 71 (.new 51) 74 8 0 403, r0 74 (.dup) 75, rX 75 (.invokespecial 53) 78 0 3 6, rX 78 (.putfield 54) 81 0 6 431, r0 81 (.aload_n 0) 82, rX 82 (.new 58) 85 3 0 423, r0 85 (.dup) 86,
  rX 86 (.invokespecial 60) 89 5 3 7, rX 89 (.putfield 61) 92 0 7 432, r0 92 (.aload_n 0) 93, r0 93 (.iconst 0) 94, rX 94 (.putfield 65) 97 0 8 433, r0 97 (.aload_n 0) 98, r0 98 (.iconst 0) 99, rX 99 (.putfield 69) 102 0 9 434,
  r0 102 (.aload_n 0) 103, r0 103 (.iconst 0) 104, rX 104 (.putfield 73) 107 0 10 435, r0 107 (.aload_n 0) 108, r0 108 (.iconst 0) 109, rX 109 (.putfield 76) 112 0 11 436, r0 112 (.return_) 113]
def T_w_feed : List Row := [r0 0 (.aload_n 0) 1, rX 1 (.getfield 10) 4 0 0 425, rX 4 (.invokevirtual 79) 7 75 0 466, rX 7 (.ifCond .ne 5) 10 12 0 0, rX 10 (.iconst (-1)) 11 1 1 0, r0 11 (.ireturn) 12, r0 12 (.aload_n 0) 13, rX 13 (.getfield 10) 16 0 0 425,
  r0 16 (.iload_n 1) 17, rX 17 (.invokevirtual 83) 20 76 0 470, r0 20 (.aload_n 0) 21, rX 21 (.getfield 10) 24 0 0 425, r0 24 (.iload_n 2) 25, rX 25 (.invokevirtual 83) 28 76 0 470, r0 28 (.aload_n 0) 29, rX 29 (.getfield 10) 32 0 0 425,
  r0 32 (.iload_n 3) 33, rX 33 (.invokevirtual 83) 36 76 0 470, r0 36 (.aload_n 0) 37, rX 37 (.getfield 10) 40 0 0 425, r0 40 (.iload 4) 42, rX 42 (.invokevirtual 83) 45 76 0 470, r0 45 (.aload_n 0) 46, rX 46 (.getfield 10) 49 0 0 425,
  r0 49 (.iload 5) 51, rX 51 (.invokevirtual 83) 54 76 0 470, r0 54 (.aload_n 0) 55, rX 55 (.getfield 10) 58 0 0 425, rX 58 (.getfield 87) 61 1 1 149, r0 61 (.ireturn) 62]
def T_w_bench : List Row := [r0 0 (.iload_n 1) 1, rX 1 (.ifCond .lt 14) 4 15 0 0, r0 4 (.iload_n 1) 5, r0 5 (.aload_n 0) 6, rX 6 (.getfield 10) 9 0 0 425, rX 9 (.getfield 87) 12 1 1 149, rX 12 (.if_icmp .le 11) 15 23 0 0, r0 15 (.aload_n 0) 16,
  rX 16 (.iconst 2) 17 2 0 0, rX 17 (.invokevirtual 90) 20 138 0 478, r0 20 (.pop) 21, rX 21 (.iconst (-1)) 22 1 1 0, r0 22 (.ireturn) 23, r0 23 (.aload_n 0) 24, rX 24 (.getfield 19) 27 0 1 426, r0 27 (.aload_n 0) 28,
  rX 28 (.getfield 10) 31 0 0 425, rX 31 (.getfield 94) 34 1 0 147, r0 34 (.iload_n 1) 35, rX 35 (.invokevirtual 98) 38 38 0 482, r0 38 (.istore_n 2) 39, r0 39 (.aload_n 0) 40, rX 40 (.getfield 10) 43 0 0 425, r0 43 (.iconst 0) 44,
  rX 44 (.putfield 87) 47 1 1 149, r0 47 (.aload_n 0) 48, r0 48 (.aload_n 0) 49, rX 49 (.getfield 19) 52 0 1 426, rX 52 (.getfield 102) 55 2 0 242, rX 55 (.putfield 73) 58 0 10 435, r0 58 (.aload_n 0) 59, r0 59 (.aload_n 0) 60,
  rX 60 (.getfield 19) 63 0 1 426, rX 63 (.getfield 105) 66 2 1 244, rX 66 (.putfield 76) 69 0 11 436, r0 69 (.aload_n 0) 70, r0 70 (.iload_n 2) 71, rX 71 (.ifCond .eq 7) 74 78 0 0, r0 74 (.iconst 0) 75, rX 75 (.goto 4) 78 79 0 0,
  rX 78 (.iconst 4) 79 4 0 0, rX 79 (.invokevirtual 90) 82 138 0 478, rX 82 (.ifCond .ne 5) 85 87 0 0, rX 85 (.iconst (-1)) 86 1 1 0, r0 86 (.ireturn) 87, r0 87 (.aload_n 0) 88, rX 88 (.getfield 61) 91 0 7 432, r0 91 (.astore_n 3) 92,
  r0 92 (.aload_n 0) 93, r0 93 (.aload_n 0) 94, rX 94 (.getfield 19) 97 0 1 426, rX 97 (.getfield 108) 100 2 2 246, rX 100 (.putfield 61) 103 0 7 432, r0 103 (.aload_n 0) 104, rX 104 (.getfield 19) 107 0 1 426, r0 107 (.aload_n 3) 108,
  rX 108 (.putfield 108) 111 2 2 246, r0 111 (.aload_n 0) 112, rX 112 (.iconst 1) 113 1 0 0, rX 113 (.putfield 65) 116 0 8 433, r0 116 (.aload_n 0) 117, rX 117 (.getfield 26) 120 0 2 427, rX 120 (.invokevirtual 111) 123 56 0 649, r0 123 (.aload_n 0) 124,
  rX 124 (.getfield 54) 127 0 6 431, rX 127 (.invokevirtual 114) 130 1 0 657, r0 130 (.aload_n 0) 131, rX 131 (.getfield 40) 134 0 4 429, r0 134 (.aload_n 0) 135, rX 135 (.getfield 61) 138 0 7 432, rX 138 (.invokevirtual 117) 141 23 0 661, r0 141 (.aload_n 0) 142,
  rX 142 (.getfield 47) 145 0 5 430, r0 145 (.iconst 0) 146, rX 146 (.putfield 121) 149 7 0 382, r0 149 (.aload_n 0) 150, rX 150 (.getfield 61) 153 0 7 432, rX 153 (.getfield 124) 156 3 0 170, r0 156 (.ireturn) 157]
def T_w_fault : List Row := [r0 0 (.aload_n 0) 1, rX 1 (.getfield 73) 4 0 10 435, r0 4 (.ireturn) 5]
def T_w_where : List Row := [r0 0 (.aload_n 0) 1, rX 1 (.getfield 69) 4 0 9 434, rX 4 (.iconst 4) 5 4 0 0, rX 5 (.if_icmp .ne 10) 8 15 0 0, r0 8 (.aload_n 0) 9, rX 9 (.getfield 76) 12 0 11 436, rX 12 (.goto 4) 15 16 0 0, rX 15 (.iconst (-1)) 16 1 1 0,
  r0 16 (.ireturn) 17]
def T_w_about : List Row := [r0 0 (.aload_n 0) 1, r0 1 (.aload_n 0) 2, rX 2 (.getfield 65) 5 0 8 433, rX 5 (.ifCond .eq 17) 8 22 0 0, r0 8 (.iload_n 1) 9, rX 9 (.ifCond .lt 13) 12 22 0 0, r0 12 (.iload_n 1) 13, rX 13 (.bipush 8) 15 8 0 0,
  rX 15 (.if_icmp .gt 7) 18 22 0 0, r0 18 (.iconst 0) 19, rX 19 (.goto 4) 22 23 0 0, rX 22 (.iconst 1) 23 1 0 0, rX 23 (.invokevirtual 90) 26 138 0 478, rX 26 (.ifCond .ne 5) 29 31 0 0, rX 29 (.iconst (-1)) 30 1 1 0, r0 30 (.ireturn) 31,
  r0 31 (.iload_n 1) 32, r0 32 (.tableswitch 106 0 7 #[48, 56, 64, 72, 80, 88, 96, 104]) 80, r0 80 (.aload_n 0) 81, rX 81 (.getfield 61) 84 0 7 432, rX 84 (.getfield 124) 87 3 0 170, r0 87 (.ireturn) 88, r0 88 (.aload_n 0) 89, rX 89 (.getfield 61) 92 0 7 432,
  rX 92 (.getfield 127) 95 3 1 175, r0 95 (.ireturn) 96, r0 96 (.aload_n 0) 97, rX 97 (.getfield 61) 100 0 7 432, rX 100 (.getfield 130) 103 3 2 178, r0 103 (.ireturn) 104, r0 104 (.aload_n 0) 105, rX 105 (.getfield 61) 108 0 7 432,
  rX 108 (.getfield 133) 111 3 3 184, r0 111 (.ireturn) 112, r0 112 (.aload_n 0) 113, rX 113 (.getfield 61) 116 0 7 432, rX 116 (.invokevirtual 136) 119 17 0 698, r0 119 (.ireturn) 120, r0 120 (.aload_n 0) 121, rX 121 (.getfield 61) 124 0 7 432,
  rX 124 (.invokevirtual 140) 127 16 0 702, r0 127 (.ireturn) 128, r0 128 (.aload_n 0) 129, rX 129 (.getfield 26) 132 0 2 427, rX 132 (.getfield 143) 135 4 0 288, r0 135 (.ireturn) 136, r0 136 (.iconst 0) 137, r0 137 (.ireturn) 138,
  r0 138 (.aload_n 0) 139, rX 139 (.getfield 26) 142 0 2 427, rX 142 (.getfield 146) 145 4 1 290, r0 145 (.ireturn) 146]
def T_w_plate : List Row := [r0 0 (.aload_n 0) 1, r0 1 (.iload_n 1) 2, rX 2 (.invokevirtual 149) 5 140 0 710, rX 5 (.ifCond .eq 15) 8 20 0 0, r0 8 (.aload_n 0) 9, rX 9 (.getfield 61) 12 0 7 432, rX 12 (.getfield 152) 15 3 8 201, r0 15 (.iload_n 1) 16,
  r0 16 (.iaload) 17, rX 17 (.goto 4) 20 21 0 0, rX 20 (.iconst (-1)) 21 1 1 0, r0 21 (.ireturn) 22]
def T_w_common : List Row := [r0 0 (.aload_n 0) 1, r0 1 (.aload_n 0) 2, rX 2 (.getfield 65) 5 0 8 433, rX 5 (.ifCond .eq 29) 8 34 0 0, r0 8 (.aload_n 0) 9, rX 9 (.getfield 61) 12 0 7 432, r0 12 (.iload_n 1) 13, rX 13 (.invokevirtual 155) 16 9 0 714,
  rX 16 (.ifCond .eq 18) 19 34 0 0, r0 19 (.aload_n 0) 20, rX 20 (.getfield 61) 23 0 7 432, r0 23 (.iload_n 2) 24, rX 24 (.invokevirtual 155) 27 9 0 714, rX 27 (.ifCond .eq 7) 30 34 0 0, r0 30 (.iconst 0) 31, rX 31 (.goto 4) 34 35 0 0,
  rX 34 (.iconst 1) 35 1 0 0, rX 35 (.invokevirtual 90) 38 138 0 478, rX 38 (.ifCond .ne 5) 41 43 0 0, rX 41 (.iconst (-1)) 42 1 1 0, r0 42 (.ireturn) 43, r0 43 (.aload_n 0) 44, rX 44 (.getfield 61) 47 0 7 432, rX 47 (.getfield 152) 50 3 8 201,
  r0 50 (.iload_n 1) 51, r0 51 (.iaload) 52, r0 52 (.aload_n 0) 53, rX 53 (.getfield 61) 56 0 7 432, rX 56 (.getfield 152) 59 3 8 201, r0 59 (.iload_n 2) 60, r0 60 (.iaload) 61, r0 61 (.iand) 62,
  rX 62 (.invokestatic 158) 65 273 1 719, r0 65 (.ireturn) 66]
def T_w_which : List Row := [r0 0 (.aload_n 0) 1, r0 1 (.iload_n 1) 2, rX 2 (.invokevirtual 164) 5 141 0 724, rX 5 (.ifCond .ne 5) 8 10 0 0, rX 8 (.iconst (-1)) 9 1 1 0, r0 9 (.ireturn) 10, r0 10 (.iconst 0) 11, r0 11 (.istore_n 2) 12,
  rH 12 (.iload_n 2) 13 0 0 0 0, r0 13 (.aload_n 0) 14, rX 14 (.getfield 61) 17 0 7 432, rX 17 (.getfield 124) 20 3 0 170, rX 20 (.if_icmp .ge 24) 23 44 0 0, r0 23 (.aload_n 0) 24, rX 24 (.getfield 61) 27 0 7 432, rX 27 (.getfield 152) 30 3 8 201,
  r0 30 (.iload_n 2) 31, r0 31 (.iaload) 32, r0 32 (.iload_n 1) 33, rX 33 (.if_icmp .ne 5) 36 38 0 0, r0 36 (.iload_n 2) 37, r0 37 (.ireturn) 38, rX 38 (.iinc 2 1) 41 1 0 0, rX 41 (.goto (-29)) 44 12 0 0,
  rX 44 (.bipush (-2)) 46 2 1 0, r0 46 (.ireturn) 47]
def T_w_apart : List Row := [r0 0 (.aload_n 0) 1, r0 1 (.iload_n 1) 2, rX 2 (.invokevirtual 149) 5 140 0 710, rX 5 (.ifCond .ne 5) 8 10 0 0, rX 8 (.iconst (-1)) 9 1 1 0, r0 9 (.ireturn) 10, r0 10 (.aload_n 0) 11, rX 11 (.getfield 61) 14 0 7 432,
  rX 14 (.getfield 124) 17 3 0 170, r0 17 (.istore_n 2) 18, r0 18 (.iconst 0) 19, r0 19 (.istore_n 3) 20, rH 20 (.iload_n 3) 21 0 0 0 0, r0 21 (.aload_n 0) 22, rX 22 (.getfield 61) 25 0 7 432, rX 25 (.getfield 124) 28 3 0 170,
  rX 28 (.if_icmp .ge 41) 31 69 0 0, r0 31 (.iload_n 3) 32, r0 32 (.iload_n 1) 33, rX 33 (.if_icmp .eq 30) 36 63 0 0, r0 36 (.iload_n 2) 37, r0 37 (.aload_n 0) 38, rX 38 (.getfield 61) 41 0 7 432, rX 41 (.getfield 152) 44 3 8 201,
  r0 44 (.iload_n 1) 45, r0 45 (.iaload) 46, r0 46 (.aload_n 0) 47, rX 47 (.getfield 61) 50 0 7 432, rX 50 (.getfield 152) 53 3 8 201, r0 53 (.iload_n 3) 54, r0 54 (.iaload) 55, r0 55 (.ixor) 56,
  rX 56 (.invokestatic 158) 59 273 1 719, rX 59 (.invokestatic 167) 62 0 6 740, r0 62 (.istore_n 2) 63, rX 63 (.iinc 3 1) 66 1 0 0, rX 66 (.goto (-46)) 69 20 0 0, r0 69 (.iload_n 2) 70, r0 70 (.ireturn) 71]
def T_w_odd : List Row := [r0 0 (.aload_n 0) 1, r0 1 (.iload_n 1) 2, rX 2 (.invokevirtual 164) 5 141 0 724, rX 5 (.ifCond .ne 5) 8 10 0 0, rX 8 (.iconst (-1)) 9 1 1 0, r0 9 (.ireturn) 10, r0 10 (.iconst 0) 11, r0 11 (.istore_n 2) 12,
  r0 12 (.iconst 0) 13, r0 13 (.istore_n 3) 14, rH 14 (.iload_n 3) 15 0 0 0 0, r0 15 (.aload_n 0) 16, rX 16 (.getfield 61) 19 0 7 432, rX 19 (.getfield 124) 22 3 0 170, rX 22 (.if_icmp .ge 30) 25 52 0 0, r0 25 (.iload_n 1) 26,
  r0 26 (.iload_n 3) 27, r0 27 (.ishr) 28, rX 28 (.iconst 1) 29 1 0 0, r0 29 (.iand) 30, rX 30 (.iconst 1) 31 1 0 0, rX 31 (.if_icmp .ne 15) 34 46 0 0, r0 34 (.iload_n 2) 35, r0 35 (.aload_n 0) 36,
  rX 36 (.getfield 61) 39 0 7 432, rX 39 (.getfield 152) 42 3 8 201, r0 42 (.iload_n 3) 43, r0 43 (.iaload) 44, r0 44 (.ixor) 45, r0 45 (.istore_n 2) 46, rX 46 (.iinc 3 1) 49 1 0 0, rX 49 (.goto (-35)) 52 14 0 0,
  r0 52 (.iload_n 2) 53, r0 53 (.ireturn) 54]
def T_w_light : List Row := [r0 0 (.aload_n 0) 1, r0 1 (.iload_n 1) 2, rX 2 (.invokevirtual 149) 5 140 0 710, rX 5 (.ifCond .eq 15) 8 20 0 0, r0 8 (.aload_n 0) 9, rX 9 (.getfield 61) 12 0 7 432, rX 12 (.getfield 173) 15 3 9 205, r0 15 (.iload_n 1) 16,
  r0 16 (.iaload) 17, rX 17 (.goto 4) 20 21 0 0, rX 20 (.iconst (-1)) 21 1 1 0, r0 21 (.ireturn) 22]
def T_w_shutter : List Row := [r0 0 (.aload_n 0) 1, r0 1 (.iload_n 1) 2, rX 2 (.invokevirtual 149) 5 140 0 710, rX 5 (.ifCond .eq 14) 8 19 0 0, r0 8 (.aload_n 0) 9, rX 9 (.getfield 61) 12 0 7 432, r0 12 (.iload_n 1) 13, rX 13 (.invokevirtual 176) 16 18 0 753,
  rX 16 (.goto 4) 19 20 0 0, rX 19 (.iconst (-1)) 20 1 1 0, r0 20 (.ireturn) 21]
def T_w_noise : List Row := [r0 0 (.aload_n 0) 1, r0 1 (.iload_n 1) 2, rX 2 (.invokevirtual 149) 5 140 0 710, rX 5 (.ifCond .eq 15) 8 20 0 0, r0 8 (.aload_n 0) 9, rX 9 (.getfield 61) 12 0 7 432, rX 12 (.getfield 179) 15 3 10 209, r0 15 (.iload_n 1) 16,
  r0 16 (.iaload) 17, rX 17 (.goto 5) 20 22 0 0, rX 20 (.ldc 182) 22 2147483648 1 761, r0 22 (.ireturn) 23]
def T_w_lost : List Row := [r0 0 (.aload_n 0) 1, r0 1 (.iload_n 1) 2, rX 2 (.invokevirtual 149) 5 140 0 710, rX 5 (.ifCond .ne 5) 8 10 0 0, rX 8 (.iconst (-1)) 9 1 1 0, r0 9 (.ireturn) 10, r0 10 (.aload_n 0) 11, rX 11 (.getfield 61) 14 0 7 432,
  r0 14 (.iload_n 1) 15, rX 15 (.invokevirtual 183) 18 12 0 766, rX 18 (.ifCond .eq 7) 21 25 0 0, rX 21 (.iconst 1) 22 1 0 0, rX 22 (.goto 4) 25 26 0 0, r0 25 (.iconst 0) 26, r0 26 (.ireturn) 27]
def T_w_look : List Row := [r0 0 (.aload_n 0) 1, r0 1 (.iload_n 1) 2, rX 2 (.invokevirtual 164) 5 141 0 724, rX 5 (.ifCond .ne 5) 8 10 0 0, rX 8 (.iconst (-1)) 9 1 1 0, r0 9 (.ireturn) 10, r0 10 (.aload_n 0) 11, rX 11 (.getfield 26) 14 0 2 427,
  r0 14 (.aload_n 0) 15, rX 15 (.getfield 61) 18 0 7 432, r0 18 (.iload_n 1) 19, rX 19 (.invokevirtual 186) 22 58 0 774, r0 22 (.istore_n 2) 23, r0 23 (.aload_n 0) 24, r0 24 (.iload_n 2) 25, rX 25 (.ifCond .lt 7) 28 32 0 0,
  r0 28 (.iconst 0) 29, rX 29 (.goto 4) 32 33 0 0, rX 32 (.iconst 5) 33 5 0 0, rX 33 (.invokevirtual 90) 36 138 0 478, rX 36 (.ifCond .ne 5) 39 41 0 0, rX 39 (.iconst (-1)) 40 1 1 0, r0 40 (.ireturn) 41, r0 41 (.aload_n 0) 42,
  rX 42 (.getfield 26) 45 0 2 427, r0 45 (.iload_n 1) 46, r0 46 (.iload_n 2) 47, rX 47 (.invokevirtual 190) 50 59 0 782, r0 50 (.iload_n 2) 51, r0 51 (.ireturn) 52]
def T_w_logged : List Row := [r0 0 (.aload_n 0) 1, rX 1 (.getfield 65) 4 0 8 433, rX 4 (.ifCond .eq 31) 7 35 0 0, r0 7 (.iload_n 1) 8, rX 8 (.ifCond .lt 27) 11 35 0 0, r0 11 (.iload_n 1) 12, r0 12 (.aload_n 0) 13, rX 13 (.getfield 26) 16 0 2 427,
  rX 16 (.getfield 194) 19 4 2 293, rX 19 (.if_icmp .ge 16) 22 35 0 0, r0 22 (.iload_n 2) 23, rX 23 (.ifCond .eq 8) 26 31 0 0, r0 26 (.iload_n 2) 27, rX 27 (.iconst 1) 28 1 0 0, rX 28 (.if_icmp .ne 7) 31 35 0 0, rX 31 (.iconst 1) 32 1 0 0,
  rX 32 (.goto 4) 35 36 0 0, r0 35 (.iconst 0) 36, r0 36 (.istore_n 3) 37, r0 37 (.aload_n 0) 38, r0 38 (.iload_n 3) 39, rX 39 (.ifCond .eq 7) 42 46 0 0, r0 42 (.iconst 0) 43, rX 43 (.goto 4) 46 47 0 0,
  rX 46 (.iconst 1) 47 1 0 0, rX 47 (.invokevirtual 90) 50 138 0 478, rX 50 (.ifCond .ne 5) 53 55 0 0, rX 53 (.iconst (-1)) 54 1 1 0, r0 54 (.ireturn) 55, r0 55 (.iload_n 2) 56, rX 56 (.ifCond .ne 15) 59 71 0 0, r0 59 (.aload_n 0) 60,
  rX 60 (.getfield 26) 63 0 2 427, rX 63 (.getfield 197) 66 4 5 300, r0 66 (.iload_n 1) 67, r0 67 (.iaload) 68, rX 68 (.goto 12) 71 80 0 0, r0 71 (.aload_n 0) 72, rX 72 (.getfield 26) 75 0 2 427, rX 75 (.getfield 200) 78 4 6 303,
  r0 78 (.iload_n 1) 79, r0 79 (.iaload) 80, r0 80 (.ireturn) 81]
def T_w_scan : List Row := [r0 0 (.aload_n 0) 1, rX 1 (.invokevirtual 203) 4 139 0 728, rX 4 (.ifCond .ne 5) 7 9 0 0, rX 7 (.iconst (-1)) 8 1 1 0, r0 8 (.ireturn) 9, r0 9 (.aload_n 0) 10, rX 10 (.getfield 26) 13 0 2 427, r0 13 (.aload_n 0) 14,
  rX 14 (.getfield 61) 17 0 7 432, rX 17 (.invokevirtual 206) 20 60 0 794, r0 20 (.istore_n 1) 21, r0 21 (.aload_n 0) 22, r0 22 (.iload_n 1) 23, rX 23 (.ifCond .lt 7) 26 30 0 0, r0 26 (.iconst 0) 27, rX 27 (.goto 4) 30 31 0 0,
  rX 30 (.iconst 5) 31 5 0 0, rX 31 (.invokevirtual 90) 34 138 0 478, rX 34 (.ifCond .eq 7) 37 41 0 0, r0 37 (.iload_n 1) 38, rX 38 (.goto 4) 41 42 0 0, rX 41 (.iconst (-1)) 42 1 1 0, r0 42 (.ireturn) 43]
def T_w_blinds : List Row := [r0 0 (.aload_n 0) 1, rX 1 (.invokevirtual 203) 4 139 0 728, rX 4 (.ifCond .ne 5) 7 9 0 0, rX 7 (.iconst (-1)) 8 1 1 0, r0 8 (.ireturn) 9, r0 9 (.iconst 0) 10, r0 10 (.istore_n 1) 11, r0 11 (.iconst 0) 12,
  r0 12 (.istore_n 2) 13, rH 13 (.iload_n 2) 14 0 0 0 0, r0 14 (.aload_n 0) 15, rX 15 (.getfield 61) 18 0 7 432, rX 18 (.getfield 124) 21 3 0 170, rX 21 (.if_icmp .ge 51) 24 72 0 0, r0 24 (.aload_n 0) 25, rX 25 (.getfield 61) 28 0 7 432,
  r0 28 (.iload_n 2) 29, rX 29 (.invokevirtual 183) 32 12 0 766, rX 32 (.ifCond .ne 34) 35 66 0 0, r0 35 (.aload_n 0) 36, rX 36 (.getfield 61) 39 0 7 432, r0 39 (.aload_n 0) 40, rX 40 (.getfield 61) 43 0 7 432, rX 43 (.getfield 152) 46 3 8 201,
  r0 46 (.iload_n 2) 47, r0 47 (.iaload) 48, rX 48 (.invokevirtual 210) 51 20 0 817, r0 51 (.aload_n 0) 52, rX 52 (.getfield 61) 55 0 7 432, rX 55 (.getfield 133) 58 3 3 184, rX 58 (.if_icmp .le 5) 61 63 0 0, r0 61 (.iload_n 1) 62,
  r0 62 (.ireturn) 63, rX 63 (.iinc 1 1) 66 1 0 0, rX 66 (.iinc 2 1) 69 1 0 0, rX 69 (.goto (-56)) 72 13 0 0, rX 72 (.bipush (-2)) 74 2 1 0, r0 74 (.ireturn) 75]
def T_w_reading : List Row := [r0 0 (.aload_n 0) 1, r0 1 (.iload_n 1) 2, rX 2 (.invokevirtual 149) 5 140 0 710, rX 5 (.ifCond .eq 36) 8 41 0 0, r0 8 (.aload_n 0) 9, r0 9 (.aload_n 0) 10, rX 10 (.getfield 26) 13 0 2 427, rX 13 (.getfield 213) 16 4 3 295,
  rX 16 (.ifCond .eq 18) 19 34 0 0, r0 19 (.aload_n 0) 20, rX 20 (.getfield 61) 23 0 7 432, r0 23 (.iload_n 1) 24, rX 24 (.invokevirtual 183) 27 12 0 766, rX 27 (.ifCond .ne 7) 30 34 0 0, r0 30 (.iconst 0) 31, rX 31 (.goto 4) 34 35 0 0,
  rX 34 (.iconst 5) 35 5 0 0, rX 35 (.invokevirtual 90) 38 138 0 478, rX 38 (.ifCond .ne 6) 41 44 0 0, rX 41 (.ldc 182) 43 2147483648 1 761, r0 43 (.ireturn) 44, r0 44 (.aload_n 0) 45, rX 45 (.getfield 26) 48 0 2 427, rX 48 (.getfield 216) 51 4 7 305,
  r0 51 (.iload_n 1) 52, r0 52 (.iaload) 53, r0 53 (.ireturn) 54]
def T_w_net : List Row := [r0 0 (.aload_n 0) 1, r0 1 (.iload_n 1) 2, rX 2 (.invokevirtual 149) 5 140 0 710, rX 5 (.ifCond .ne 6) 8 11 0 0, rX 8 (.ldc 182) 10 2147483648 1 761, r0 10 (.ireturn) 11, r0 11 (.aload_n 0) 12, rX 12 (.getfield 26) 15 0 2 427,
  rX 15 (.getfield 213) 18 4 3 295, rX 18 (.ifCond .eq 29) 21 47 0 0, r0 21 (.aload_n 0) 22, rX 22 (.getfield 61) 25 0 7 432, r0 25 (.iload_n 1) 26, rX 26 (.invokevirtual 183) 29 12 0 766, rX 29 (.ifCond .eq 14) 32 43 0 0, r0 32 (.aload_n 0) 33,
  rX 33 (.getfield 61) 36 0 7 432, rX 36 (.invokevirtual 219) 39 13 0 826, rX 39 (.iconst 1) 40 1 0 0, rX 40 (.if_icmp .ne 7) 43 47 0 0, rX 43 (.iconst 1) 44 1 0 0, rX 44 (.goto 4) 47 48 0 0, r0 47 (.iconst 0) 48, r0 48 (.istore_n 2) 49,
  r0 49 (.aload_n 0) 50, r0 50 (.iload_n 2) 51, rX 51 (.ifCond .eq 7) 54 58 0 0, r0 54 (.iconst 0) 55, rX 55 (.goto 4) 58 59 0 0, rX 58 (.iconst 5) 59 5 0 0, rX 59 (.invokevirtual 90) 62 138 0 478, rX 62 (.ifCond .eq 15) 65 77 0 0,
  r0 65 (.aload_n 0) 66, rX 66 (.getfield 26) 69 0 2 427, rX 69 (.getfield 222) 72 4 8 307, r0 72 (.iload_n 1) 73, r0 73 (.iaload) 74, rX 74 (.goto 5) 77 79 0 0, rX 77 (.ldc 182) 79 2147483648 1 761, r0 79 (.ireturn) 80]
def T_w_back : List Row := [r0 0 (.aload_n 0) 1, r0 1 (.iload_n 1) 2, rX 2 (.invokevirtual 225) 5 143 0 831, rX 5 (.ifCond .ne 7) 8 12 0 0, rX 8 (.ldc2_w 230) 11 9223372036854775808 1 839, r0 11 (.lreturn) 12, r0 12 (.aload_n 0) 13, rX 13 (.getfield 26) 16 0 2 427,
  rX 16 (.getfield 232) 19 4 9 310, r0 19 (.iload_n 1) 20, r0 20 (.laload) 21, r0 21 (.aload_n 0) 22, rX 22 (.getfield 61) 25 0 7 432, rX 25 (.invokevirtual 236) 28 14 0 840, r0 28 (.iload_n 2) 29, rX 29 (.invokestatic 240) 32 34 1 844,
  r0 32 (.lreturn) 33]
def T_w_odds : List Row := [r0 0 (.aload_n 0) 1, rX 1 (.invokevirtual 246) 4 142 0 835, rX 4 (.ifCond .ne 5) 7 9 0 0, rX 7 (.iconst (-1)) 8 1 1 0, r0 8 (.ireturn) 9, r0 9 (.iconst 0) 10, r0 10 (.istore_n 1) 11, r0 11 (.iconst 0) 12,
  r0 12 (.istore_n 2) 13, rH 13 (.iload_n 2) 14 0 0 0 0, r0 14 (.aload_n 0) 15, rX 15 (.getfield 61) 18 0 7 432, rX 18 (.getfield 124) 21 3 0 170, rX 21 (.if_icmp .ge 51) 24 72 0 0, r0 24 (.aload_n 0) 25, rX 25 (.getfield 26) 28 0 2 427,
  rX 28 (.getfield 232) 31 4 9 310, r0 31 (.iload_n 2) 32, r0 32 (.laload) 33, r0 33 (.lconst 0) 34, r0 34 (.lcmp) 35, rX 35 (.ifCond .lt 25) 38 60 0 0, r0 38 (.aload_n 0) 39, rX 39 (.getfield 26) 42 0 2 427,
  rX 42 (.getfield 232) 45 4 9 310, r0 45 (.iload_n 2) 46, r0 46 (.laload) 47, r0 47 (.aload_n 0) 48, rX 48 (.getfield 61) 51 0 7 432, rX 51 (.invokevirtual 236) 54 14 0 840, rX 54 (.invokestatic 249) 57 35 1 857, rX 57 (.ifCond .ne 9) 60 66 0 0,
  r0 60 (.iload_n 1) 61, rX 61 (.iconst 1) 62 1 0 0, r0 62 (.iload_n 2) 63, r0 63 (.ishl) 64, r0 64 (.ior) 65, r0 65 (.istore_n 1) 66, rX 66 (.iinc 2 1) 69 1 0 0, rX 69 (.goto (-56)) 72 13 0 0,
  r0 72 (.iload_n 1) 73, r0 73 (.ireturn) 74]
def T_w_more : List Row := [r0 0 (.aload_n 0) 1, rX 1 (.invokevirtual 246) 4 142 0 835, rX 4 (.ifCond .ne 7) 7 11 0 0, rX 7 (.ldc2_w 230) 10 9223372036854775808 1 839, r0 10 (.lreturn) 11, r0 11 (.aload_n 0) 12, rX 12 (.getfield 61) 15 0 7 432, rX 15 (.invokevirtual 136) 18 17 0 698,
  r0 18 (.i2l) 19, r0 19 (.lneg) 20, r0 20 (.aload_n 0) 21, rX 21 (.getfield 61) 24 0 7 432, rX 24 (.invokevirtual 236) 27 14 0 840, r0 27 (.lmul) 28, r0 28 (.lstore_n 2) 29, r0 29 (.iconst 0) 30,
  r0 30 (.istore 4) 32, rH 32 (.iload 4) 34 0 0 0 0, r0 34 (.aload_n 0) 35, rX 35 (.getfield 61) 38 0 7 432, rX 38 (.getfield 124) 41 3 0 170, rX 41 (.if_icmp .ge 22) 44 63 0 0, r0 44 (.lload_n 2) 45, r0 45 (.aload_n 0) 46,
  rX 46 (.getfield 26) 49 0 2 427, rX 49 (.getfield 232) 52 4 9 310, r0 52 (.iload 4) 54, r0 54 (.laload) 55, r0 55 (.ladd) 56, r0 56 (.lstore_n 2) 57, rX 57 (.iinc 4 1) 60 1 0 0, rX 60 (.goto (-28)) 63 32 0 0,
  r0 63 (.lload_n 2) 64, r0 64 (.aload_n 0) 65, rX 65 (.getfield 61) 68 0 7 432, rX 68 (.invokevirtual 236) 71 14 0 840, r0 71 (.iload_n 1) 72, rX 72 (.invokestatic 240) 75 34 1 844, r0 75 (.lreturn) 76]
def T_w_error : List Row := [r0 0 (.aload_n 0) 1, r0 1 (.iload_n 1) 2, rX 2 (.invokevirtual 225) 5 143 0 831, rX 5 (.ifCond .ne 7) 8 12 0 0, rX 8 (.ldc2_w 230) 11 9223372036854775808 1 839, r0 11 (.lreturn) 12, r0 12 (.aload_n 0) 13, rX 13 (.getfield 26) 16 0 2 427,
  r0 16 (.aload_n 0) 17, rX 17 (.getfield 61) 20 0 7 432, r0 20 (.iload_n 1) 21, rX 21 (.invokevirtual 253) 24 63 0 868, r0 24 (.aload_n 0) 25, rX 25 (.getfield 61) 28 0 7 432, rX 28 (.invokevirtual 236) 31 14 0 840, r0 31 (.iload_n 2) 32,
  rX 32 (.invokestatic 240) 35 34 1 844, r0 35 (.lreturn) 36]
def T_w_errors : List Row := [r0 0 (.aload_n 0) 1, rX 1 (.invokevirtual 246) 4 142 0 835, rX 4 (.ifCond .ne 7) 7 11 0 0, rX 7 (.ldc2_w 230) 10 9223372036854775808 1 839, r0 10 (.lreturn) 11, r0 11 (.lconst 0) 12, r0 12 (.lstore_n 2) 13, r0 13 (.iconst 0) 14,
  r0 14 (.istore 4) 16, rH 16 (.iload 4) 18 0 0 0 0, r0 18 (.aload_n 0) 19, rX 19 (.getfield 61) 22 0 7 432, rX 22 (.getfield 124) 25 3 0 170, rX 25 (.if_icmp .ge 32) 28 57 0 0, r0 28 (.aload_n 0) 29, rX 29 (.getfield 26) 32 0 2 427,
  r0 32 (.aload_n 0) 33, rX 33 (.getfield 61) 36 0 7 432, r0 36 (.iload 4) 38, rX 38 (.invokevirtual 253) 41 63 0 868, r0 41 (.lstore 5) 43, r0 43 (.lload_n 2) 44, r0 44 (.lload 5) 46, r0 46 (.lload 5) 48,
  r0 48 (.lmul) 49, r0 49 (.ladd) 50, r0 50 (.lstore_n 2) 51, rX 51 (.iinc 4 1) 54 1 0 0, rX 54 (.goto (-38)) 57 16 0 0, r0 57 (.lload_n 2) 58, r0 58 (.aload_n 0) 59, rX 59 (.getfield 61) 62 0 7 432,
  rX 62 (.invokevirtual 257) 65 15 0 878, r0 65 (.iload_n 1) 66, rX 66 (.invokestatic 240) 69 34 1 844, r0 69 (.lreturn) 70]
def T_w_worst : List Row := [r0 0 (.aload_n 0) 1, rX 1 (.invokevirtual 246) 4 142 0 835, rX 4 (.ifCond .ne 5) 7 9 0 0, rX 7 (.iconst (-1)) 8 1 1 0, r0 8 (.ireturn) 9, r0 9 (.iconst 0) 10, r0 10 (.istore_n 1) 11, rX 11 (.ldc2_w 260) 14 1 1 887,
  r0 14 (.lstore_n 2) 15, r0 15 (.iconst 0) 16, r0 16 (.istore 4) 18, rH 18 (.iload 4) 20 0 0 0 0, r0 20 (.aload_n 0) 21, rX 21 (.getfield 61) 24 0 7 432, rX 24 (.getfield 124) 27 3 0 170, rX 27 (.if_icmp .ge 40) 30 67 0 0,
  r0 30 (.aload_n 0) 31, rX 31 (.getfield 26) 34 0 2 427, r0 34 (.aload_n 0) 35, rX 35 (.getfield 61) 38 0 7 432, r0 38 (.iload 4) 40, rX 40 (.invokevirtual 253) 43 63 0 868, rX 43 (.invokestatic 262) 46 0 7 888, r0 46 (.lstore 5) 48,
  r0 48 (.lload 5) 50, r0 50 (.lload_n 2) 51, r0 51 (.lcmp) 52, rX 52 (.ifCond .le 9) 55 61 0 0, r0 55 (.lload 5) 57, r0 57 (.lstore_n 2) 58, r0 58 (.iload 4) 60, r0 60 (.istore_n 1) 61,
  rX 61 (.iinc 4 1) 64 1 0 0, rX 64 (.goto (-46)) 67 18 0 0, r0 67 (.iload_n 1) 68, r0 68 (.ireturn) 69]
def T_w_share : List Row := [r0 0 (.aload_n 0) 1, rX 1 (.invokevirtual 203) 4 139 0 728, rX 4 (.ifCond .ne 7) 7 11 0 0, rX 7 (.ldc2_w 260) 10 1 1 887, r0 10 (.lreturn) 11, rX 11 (.ldc2_w 266) 14 4 0 893, r0 14 (.aload_n 0) 15, rX 15 (.getfield 61) 18 0 7 432,
  rX 18 (.getfield 124) 21 3 0 170, r0 21 (.i2l) 22, r0 22 (.lmul) 23, r0 23 (.aload_n 0) 24, rX 24 (.getfield 61) 27 0 7 432, rX 27 (.invokevirtual 257) 30 15 0 878, r0 30 (.iload_n 1) 31, rX 31 (.invokestatic 240) 34 34 1 844,
  r0 34 (.lreturn) 35]
def T_w_grains : List Row := [r0 0 (.aload_n 0) 1, rX 1 (.invokevirtual 246) 4 142 0 835, rX 4 (.ifCond .ne 7) 7 11 0 0, rX 7 (.ldc2_w 230) 10 9223372036854775808 1 839, r0 10 (.lreturn) 11, rX 11 (.ldc2_w 266) 14 4 0 893, r0 14 (.aload_n 0) 15, rX 15 (.getfield 26) 18 0 2 427,
  rX 18 (.getfield 268) 21 4 4 297, r0 21 (.lmul) 22, r0 22 (.aload_n 0) 23, rX 23 (.getfield 61) 26 0 7 432, rX 26 (.invokevirtual 257) 29 15 0 878, r0 29 (.iload_n 1) 30, rX 30 (.invokestatic 240) 33 34 1 844, r0 33 (.lreturn) 34]
def T_w_better : List Row := [r0 0 (.aload_n 0) 1, rX 1 (.invokevirtual 246) 4 142 0 835, rX 4 (.ifCond .ne 5) 7 9 0 0, rX 7 (.iconst (-1)) 8 1 1 0, r0 8 (.ireturn) 9, r0 9 (.iconst 0) 10, r0 10 (.istore_n 1) 11, r0 11 (.iconst 0) 12,
  r0 12 (.istore_n 2) 13, rH 13 (.iload_n 2) 14 0 0 0 0, r0 14 (.aload_n 0) 15, rX 15 (.getfield 61) 18 0 7 432, rX 18 (.getfield 124) 21 3 0 170, rX 21 (.if_icmp .ge 47) 24 68 0 0, rX 24 (.ldc2_w 266) 27 4 0 893, r0 27 (.aload_n 0) 28,
  rX 28 (.getfield 26) 31 0 2 427, rX 31 (.getfield 268) 34 4 4 297, r0 34 (.lmul) 35, r0 35 (.aload_n 0) 36, rX 36 (.getfield 26) 39 0 2 427, rX 39 (.getfield 232) 42 4 9 310, r0 42 (.iload_n 2) 43, r0 43 (.laload) 44,
  r0 44 (.aload_n 0) 45, rX 45 (.getfield 61) 48 0 7 432, rX 48 (.invokevirtual 236) 51 14 0 840, r0 51 (.lmul) 52, r0 52 (.lcmp) 53, rX 53 (.ifCond .ge 9) 56 62 0 0, r0 56 (.iload_n 1) 57, rX 57 (.iconst 1) 58 1 0 0,
  r0 58 (.iload_n 2) 59, r0 59 (.ishl) 60, r0 60 (.ior) 61, r0 61 (.istore_n 1) 62, rX 62 (.iinc 2 1) 65 1 0 0, rX 65 (.goto (-52)) 68 13 0 0, r0 68 (.iload_n 1) 69, r0 69 (.ireturn) 70]
def T_w_alone : List Row := [r0 0 (.aload_n 0) 1, r0 1 (.iload_n 1) 2, rX 2 (.invokevirtual 149) 5 140 0 710, rX 5 (.ifCond .eq 14) 8 19 0 0, r0 8 (.aload_n 0) 9, rX 9 (.getfield 61) 12 0 7 432, r0 12 (.iload_n 1) 13, rX 13 (.invokevirtual 272) 16 21 0 906,
  rX 16 (.goto 5) 19 21 0 0, rX 19 (.ldc 182) 21 2147483648 1 761, r0 21 (.ireturn) 22]
def T_w_alones : List Row := [r0 0 (.aload_n 0) 1, rX 1 (.invokevirtual 203) 4 139 0 728, rX 4 (.ifCond .ne 7) 7 11 0 0, rX 7 (.ldc2_w 260) 10 1 1 887, r0 10 (.lreturn) 11, r0 11 (.lconst 0) 12, r0 12 (.lstore_n 1) 13, r0 13 (.iconst 0) 14,
  r0 14 (.istore_n 3) 15, rH 15 (.iload_n 3) 16 0 0 0 0, r0 16 (.aload_n 0) 17, rX 17 (.getfield 61) 20 0 7 432, rX 20 (.getfield 124) 23 3 0 170, rX 23 (.if_icmp .ge 38) 26 61 0 0, r0 26 (.aload_n 0) 27, rX 27 (.getfield 61) 30 0 7 432,
  r0 30 (.iload_n 3) 31, rX 31 (.invokevirtual 272) 34 21 0 906, r0 34 (.aload_n 0) 35, rX 35 (.getfield 61) 38 0 7 432, rX 38 (.getfield 173) 41 3 9 205, r0 41 (.iload_n 3) 42, r0 42 (.iaload) 43, r0 43 (.isub) 44,
  r0 44 (.i2l) 45, r0 45 (.lstore 4) 47, r0 47 (.lload_n 1) 48, r0 48 (.lload 4) 50, r0 50 (.lload 4) 52, r0 52 (.lmul) 53, r0 53 (.ladd) 54, r0 54 (.lstore_n 1) 55,
  rX 55 (.iinc 3 1) 58 1 0 0, rX 58 (.goto (-43)) 61 15 0 0, r0 61 (.lload_n 1) 62, r0 62 (.lreturn) 63]
def T_w_closer : List Row := [r0 0 (.aload_n 0) 1, rX 1 (.invokevirtual 246) 4 142 0 835, rX 4 (.ifCond .ne 5) 7 9 0 0, rX 7 (.iconst (-1)) 8 1 1 0, r0 8 (.ireturn) 9, r0 9 (.iconst 0) 10, r0 10 (.istore_n 1) 11, r0 11 (.iconst 0) 12,
  r0 12 (.istore_n 2) 13, rH 13 (.iload_n 2) 14 0 0 0 0, r0 14 (.aload_n 0) 15, rX 15 (.getfield 61) 18 0 7 432, rX 18 (.getfield 124) 21 3 0 170, rX 21 (.if_icmp .ge 67) 24 88 0 0, r0 24 (.aload_n 0) 25, rX 25 (.getfield 61) 28 0 7 432,
  r0 28 (.iload_n 2) 29, rX 29 (.invokevirtual 272) 32 21 0 906, r0 32 (.i2l) 33, r0 33 (.aload_n 0) 34, rX 34 (.getfield 61) 37 0 7 432, rX 37 (.getfield 173) 40 3 9 205, r0 40 (.iload_n 2) 41, r0 41 (.iaload) 42,
  r0 42 (.i2l) 43, r0 43 (.lsub) 44, rX 44 (.invokestatic 262) 47 0 7 888, r0 47 (.lstore_n 3) 48, r0 48 (.aload_n 0) 49, rX 49 (.getfield 26) 52 0 2 427, r0 52 (.aload_n 0) 53, rX 53 (.getfield 61) 56 0 7 432,
  r0 56 (.iload_n 2) 57, rX 57 (.invokevirtual 253) 60 63 0 868, rX 60 (.invokestatic 262) 63 0 7 888, r0 63 (.lload_n 3) 64, r0 64 (.aload_n 0) 65, rX 65 (.getfield 61) 68 0 7 432, rX 68 (.invokevirtual 236) 71 14 0 840, r0 71 (.lmul) 72,
  r0 72 (.lcmp) 73, rX 73 (.ifCond .ge 9) 76 82 0 0, r0 76 (.iload_n 1) 77, rX 77 (.iconst 1) 78 1 0 0, r0 78 (.iload_n 2) 79, r0 79 (.ishl) 80, r0 80 (.ior) 81, r0 81 (.istore_n 1) 82,
  rX 82 (.iinc 2 1) 85 1 0 0, rX 85 (.goto (-72)) 88 13 0 0, r0 88 (.iload_n 1) 89, r0 89 (.ireturn) 90]
def T_w_suspects : List Row := [r0 0 (.aload_n 0) 1, rX 1 (.invokevirtual 275) 4 144 0 923, rX 4 (.ifCond .eq 21) 7 25 0 0, r0 7 (.aload_n 0) 8, rX 8 (.getfield 33) 11 0 3 428, r0 11 (.aload_n 0) 12, rX 12 (.getfield 61) 15 0 7 432, r0 15 (.aload_n 0) 16,
  rX 16 (.getfield 26) 19 0 2 427, rX 19 (.invokevirtual 278) 22 65 0 927, rX 22 (.goto 4) 25 26 0 0, rX 25 (.iconst (-1)) 26 1 1 0, r0 26 (.ireturn) 27]
def T_w_suspect : List Row := [r0 0 (.aload_n 0) 1, rX 1 (.invokevirtual 275) 4 144 0 923, rX 4 (.ifCond .ne 5) 7 9 0 0, rX 7 (.iconst (-1)) 8 1 1 0, r0 8 (.ireturn) 9, r0 9 (.aload_n 0) 10, rX 10 (.getfield 33) 13 0 3 428, r0 13 (.iload_n 1) 14,
  r0 14 (.aload_n 0) 15, rX 15 (.getfield 61) 18 0 7 432, r0 18 (.aload_n 0) 19, rX 19 (.getfield 26) 22 0 2 427, rX 22 (.invokevirtual 282) 25 66 0 968, r0 25 (.istore_n 2) 26, r0 26 (.aload_n 0) 27, r0 27 (.iload_n 2) 28,
  rX 28 (.ifCond .lt 7) 31 35 0 0, r0 31 (.iconst 0) 32, rX 32 (.goto 4) 35 36 0 0, rX 35 (.iconst 1) 36 1 0 0, rX 36 (.invokevirtual 90) 39 138 0 478, rX 39 (.ifCond .eq 7) 42 46 0 0, r0 42 (.iload_n 2) 43, rX 43 (.goto 4) 46 47 0 0,
  rX 46 (.iconst (-1)) 47 1 1 0, r0 47 (.ireturn) 48]
def T_w_supposed : List Row := [r0 0 (.aload_n 0) 1, r0 1 (.iload_n 2) 2, rX 2 (.invokevirtual 149) 5 140 0 710, rX 5 (.ifCond .eq 10) 8 15 0 0, r0 8 (.aload_n 0) 9, rX 9 (.invokevirtual 275) 12 144 0 923, rX 12 (.ifCond .ne 5) 15 17 0 0, rX 15 (.iconst (-1)) 16 1 1 0,
  r0 16 (.ireturn) 17, r0 17 (.aload_n 0) 18, rX 18 (.getfield 33) 21 0 3 428, r0 21 (.iload_n 1) 22, r0 22 (.aload_n 0) 23, rX 23 (.getfield 61) 26 0 7 432, r0 26 (.aload_n 0) 27, rX 27 (.getfield 26) 30 0 2 427,
  rX 30 (.invokevirtual 282) 33 66 0 968, r0 33 (.istore_n 3) 34, r0 34 (.aload_n 0) 35, r0 35 (.iload_n 3) 36, rX 36 (.ifCond .lt 7) 39 43 0 0, r0 39 (.iconst 0) 40, rX 40 (.goto 4) 43 44 0 0, rX 43 (.iconst 1) 44 1 0 0,
  rX 44 (.invokevirtual 90) 47 138 0 478, rX 47 (.ifCond .eq 15) 50 62 0 0, r0 50 (.aload_n 0) 51, rX 51 (.getfield 33) 54 0 3 428, rX 54 (.getfield 286) 57 5 0 340, r0 57 (.iload_n 2) 58, r0 58 (.iaload) 59, rX 59 (.goto 4) 62 63 0 0,
  rX 62 (.iconst (-1)) 63 1 1 0, r0 63 (.ireturn) 64]
def T_w_mask : List Row := [r0 0 (.aload_n 0) 1, r0 1 (.aload_n 0) 2, rX 2 (.getfield 65) 5 0 8 433, rX 5 (.ifCond .eq 18) 8 23 0 0, r0 8 (.aload_n 0) 9, rX 9 (.getfield 61) 12 0 7 432, r0 12 (.iload_n 1) 13, rX 13 (.invokevirtual 287) 16 10 0 980,
  rX 16 (.ifCond .eq 7) 19 23 0 0, r0 19 (.iconst 0) 20, rX 20 (.goto 4) 23 24 0 0, rX 23 (.iconst 1) 24 1 0 0, rX 24 (.invokevirtual 90) 27 138 0 478, rX 27 (.ifCond .eq 15) 30 42 0 0, r0 30 (.aload_n 0) 31, rX 31 (.getfield 61) 34 0 7 432,
  rX 34 (.getfield 290) 37 3 11 215, r0 37 (.iload_n 1) 38, r0 38 (.iaload) 39, rX 39 (.goto 4) 42 43 0 0, rX 42 (.iconst (-1)) 43 1 1 0, r0 43 (.ireturn) 44]
def T_w_rank : List Row := [r0 0 (.aload_n 0) 1, rX 1 (.invokevirtual 203) 4 139 0 728, rX 4 (.ifCond .eq 13) 7 17 0 0, r0 7 (.aload_n 0) 8, rX 8 (.getfield 40) 11 0 4 429, rX 11 (.getfield 293) 14 6 0 353, rX 14 (.goto 4) 17 18 0 0, rX 17 (.iconst (-1)) 18 1 1 0,
  r0 18 (.ireturn) 19]
def T_w_told : List Row := [r0 0 (.aload_n 0) 1, rX 1 (.invokevirtual 203) 4 139 0 728, rX 4 (.ifCond .eq 13) 7 17 0 0, r0 7 (.aload_n 0) 8, rX 8 (.getfield 40) 11 0 4 429, rX 11 (.getfield 296) 14 6 1 355, rX 14 (.goto 4) 17 18 0 0, rX 17 (.iconst (-1)) 18 1 1 0,
  r0 18 (.ireturn) 19]
def T_w_solved : List Row := [r0 0 (.aload_n 0) 1, r0 1 (.iload_n 1) 2, rX 2 (.invokevirtual 299) 5 145 0 996, rX 5 (.ifCond .ne 7) 8 12 0 0, rX 8 (.ldc2_w 230) 11 9223372036854775808 1 839, r0 11 (.lreturn) 12, r0 12 (.aload_n 0) 13, rX 13 (.getfield 40) 16 0 4 429,
  r0 16 (.aload_n 0) 17, rX 17 (.getfield 61) 20 0 7 432, r0 20 (.aload_n 0) 21, rX 21 (.getfield 40) 24 0 4 429, rX 24 (.getfield 302) 27 6 3 359, r0 27 (.iload_n 1) 28, r0 28 (.iaload) 29, rX 29 (.invokevirtual 305) 32 27 0 1004,
  r0 32 (.aload_n 0) 33, rX 33 (.getfield 40) 36 0 4 429, rX 36 (.getfield 308) 39 6 2 357, r0 39 (.iload_n 2) 40, rX 40 (.invokestatic 240) 43 34 1 844, r0 43 (.lreturn) 44]
def T_w_factor : List Row := [r0 0 (.aload_n 0) 1, r0 1 (.aload_n 0) 2, rX 2 (.getfield 65) 5 0 8 433, rX 5 (.ifCond .eq 18) 8 23 0 0, r0 8 (.aload_n 0) 9, rX 9 (.getfield 61) 12 0 7 432, r0 12 (.iload_n 2) 13, rX 13 (.invokevirtual 287) 16 10 0 980,
  rX 16 (.ifCond .eq 7) 19 23 0 0, r0 19 (.iconst 0) 20, rX 20 (.goto 4) 23 24 0 0, rX 23 (.iconst 1) 24 1 0 0, rX 24 (.invokevirtual 90) 27 138 0 478, rX 27 (.ifCond .eq 11) 30 38 0 0, r0 30 (.aload_n 0) 31, r0 31 (.iload_n 1) 32,
  rX 32 (.invokevirtual 299) 35 145 0 996, rX 35 (.ifCond .ne 7) 38 42 0 0, rX 38 (.ldc2_w 230) 41 9223372036854775808 1 839, r0 41 (.lreturn) 42, r0 42 (.aload_n 0) 43, rX 43 (.getfield 40) 46 0 4 429, r0 46 (.aload_n 0) 47, rX 47 (.getfield 40) 50 0 4 429,
  rX 50 (.getfield 302) 53 6 3 359, r0 53 (.iload_n 1) 54, r0 54 (.iaload) 55, r0 55 (.iload_n 2) 56, rX 56 (.invokevirtual 311) 59 25 0 1017, r0 59 (.aload_n 0) 60, rX 60 (.getfield 40) 63 0 4 429, rX 63 (.getfield 308) 66 6 2 357,
  r0 66 (.iload_n 3) 67, rX 67 (.invokestatic 240) 70 34 1 844, r0 70 (.lreturn) 71]
def T_w_shareBy : List Row := [r0 0 (.aload_n 0) 1, r0 1 (.iload_n 1) 2, rX 2 (.invokevirtual 299) 5 145 0 996, rX 5 (.ifCond .ne 7) 8 12 0 0, rX 8 (.ldc2_w 260) 11 1 1 887, r0 11 (.lreturn) 12, r0 12 (.aload_n 0) 13, rX 13 (.getfield 40) 16 0 4 429,
  r0 16 (.aload_n 0) 17, rX 17 (.getfield 61) 20 0 7 432, r0 20 (.aload_n 0) 21, rX 21 (.getfield 40) 24 0 4 429, rX 24 (.getfield 302) 27 6 3 359, r0 27 (.iload_n 1) 28, r0 28 (.iaload) 29, rX 29 (.invokevirtual 315) 32 26 0 1022,
  r0 32 (.aload_n 0) 33, rX 33 (.getfield 40) 36 0 4 429, rX 36 (.getfield 308) 39 6 2 357, r0 39 (.aload_n 0) 40, rX 40 (.getfield 40) 43 0 4 429, rX 43 (.getfield 308) 46 6 2 357, r0 46 (.lmul) 47, r0 47 (.iload_n 2) 48,
  rX 48 (.invokestatic 240) 51 34 1 844, r0 51 (.lreturn) 52]
def T_w_fewer : List Row := [r0 0 (.aload_n 0) 1, rX 1 (.invokevirtual 203) 4 139 0 728, rX 4 (.ifCond .ne 5) 7 9 0 0, rX 7 (.iconst (-1)) 8 1 1 0, r0 8 (.ireturn) 9, rX 9 (.ldc2_w 266) 12 4 0 893, r0 12 (.aload_n 0) 13, rX 13 (.getfield 61) 16 0 7 432,
  rX 16 (.getfield 124) 19 3 0 170, r0 19 (.i2l) 20, r0 20 (.lmul) 21, r0 21 (.aload_n 0) 22, rX 22 (.getfield 40) 25 0 4 429, rX 25 (.getfield 308) 28 6 2 357, r0 28 (.lmul) 29, r0 29 (.aload_n 0) 30,
  rX 30 (.getfield 40) 33 0 4 429, rX 33 (.getfield 308) 36 6 2 357, r0 36 (.lmul) 37, r0 37 (.lstore_n 1) 38, r0 38 (.iconst 0) 39, r0 39 (.istore_n 3) 40, r0 40 (.iconst 0) 41, r0 41 (.istore 4) 43,
  rH 43 (.iload 4) 45 0 0 0 0, r0 45 (.aload_n 0) 46, rX 46 (.getfield 61) 49 0 7 432, rX 49 (.getfield 124) 52 3 0 170, rX 52 (.if_icmp .ge 62) 55 114 0 0, r0 55 (.aload_n 0) 56, rX 56 (.getfield 40) 59 0 4 429, r0 59 (.iload 4) 61,
  rX 61 (.invokevirtual 318) 64 24 0 1000, rX 64 (.ifCond .eq 44) 67 108 0 0, r0 67 (.aload_n 0) 68, rX 68 (.getfield 40) 71 0 4 429, r0 71 (.aload_n 0) 72, rX 72 (.getfield 61) 75 0 7 432, r0 75 (.aload_n 0) 76, rX 76 (.getfield 40) 79 0 4 429,
  rX 79 (.getfield 302) 82 6 3 359, r0 82 (.iload 4) 84, r0 84 (.iaload) 85, rX 85 (.invokevirtual 315) 88 26 0 1022, r0 88 (.aload_n 0) 89, rX 89 (.getfield 61) 92 0 7 432, rX 92 (.invokevirtual 257) 95 15 0 878, r0 95 (.lmul) 96,
  r0 96 (.lload_n 1) 97, r0 97 (.lcmp) 98, rX 98 (.ifCond .ge 10) 101 108 0 0, r0 101 (.iload_n 3) 102, rX 102 (.iconst 1) 103 1 0 0, r0 103 (.iload 4) 105, r0 105 (.ishl) 106, r0 106 (.ior) 107,
  r0 107 (.istore_n 3) 108, rX 108 (.iinc 4 1) 111 1 0 0, rX 111 (.goto (-68)) 114 43 0 0, r0 114 (.iload_n 3) 115, r0 115 (.ireturn) 116]
def T_w_agree : List Row := [r0 0 (.aload_n 0) 1, rX 1 (.invokevirtual 203) 4 139 0 728, rX 4 (.ifCond .ne 5) 7 9 0 0, rX 7 (.iconst (-1)) 8 1 1 0, r0 8 (.ireturn) 9, r0 9 (.aload_n 0) 10, rX 10 (.getfield 40) 13 0 4 429, r0 13 (.aload_n 0) 14,
  rX 14 (.getfield 61) 17 0 7 432, rX 17 (.invokevirtual 321) 20 28 0 1034, rX 20 (.ifCond .eq 7) 23 27 0 0, rX 23 (.iconst 1) 24 1 0 0, rX 24 (.goto 4) 27 28 0 0, r0 27 (.iconst 0) 28, r0 28 (.ireturn) 29]
def T_w_tour : List Row := [r0 0 (.aload_n 0) 1, rX 1 (.invokevirtual 203) 4 139 0 728, rX 4 (.ifCond .ne 5) 7 9 0 0, rX 7 (.iconst (-1)) 8 1 1 0, r0 8 (.ireturn) 9, r0 9 (.aload_n 0) 10, rX 10 (.getfield 47) 13 0 5 430, r0 13 (.aload_n 0) 14,
  rX 14 (.getfield 61) 17 0 7 432, rX 17 (.invokevirtual 325) 20 78 0 1043, r0 20 (.aload_n 0) 21, rX 21 (.getfield 47) 24 0 5 430, rX 24 (.getfield 328) 27 7 1 384, r0 27 (.ireturn) 28]
def T_w_tourAt : List Row := [r0 0 (.aload_n 0) 1, r0 1 (.aload_n 0) 2, rX 2 (.getfield 65) 5 0 8 433, rX 5 (.ifCond .eq 18) 8 23 0 0, r0 8 (.aload_n 0) 9, rX 9 (.getfield 61) 12 0 7 432, r0 12 (.iload_n 1) 13, rX 13 (.invokevirtual 287) 16 10 0 980,
  rX 16 (.ifCond .eq 7) 19 23 0 0, r0 19 (.iconst 0) 20, rX 20 (.goto 4) 23 24 0 0, rX 23 (.iconst 1) 24 1 0 0, rX 24 (.invokevirtual 90) 27 138 0 478, rX 27 (.ifCond .ne 5) 30 32 0 0, rX 30 (.iconst (-1)) 31 1 1 0, r0 31 (.ireturn) 32,
  r0 32 (.aload_n 0) 33, rX 33 (.getfield 47) 36 0 5 430, r0 36 (.aload_n 0) 37, rX 37 (.getfield 61) 40 0 7 432, rX 40 (.invokevirtual 325) 43 78 0 1043, r0 43 (.aload_n 0) 44, rX 44 (.getfield 47) 47 0 5 430, rX 47 (.getfield 331) 50 7 2 386,
  r0 50 (.iload_n 1) 51, r0 51 (.iaload) 52, r0 52 (.ireturn) 53]
def T_w_sign : List Row := [r0 0 (.iload_n 1) 1, rX 1 (.ifCond .lt 35) 4 36 0 0, r0 4 (.iload_n 1) 5, rX 5 (.bipush 9) 7 9 0 0, rX 7 (.if_icmp .gt 29) 10 36 0 0, r0 10 (.iload_n 2) 11, rX 11 (.ifCond .lt 25) 14 36 0 0, r0 14 (.iload_n 2) 15,
  rX 15 (.iconst 1) 16 1 0 0, r0 16 (.iload_n 1) 17, r0 17 (.ishl) 18, rX 18 (.if_icmp .ge 18) 21 36 0 0, r0 21 (.iload_n 3) 22, rX 22 (.ifCond .lt 14) 25 36 0 0, r0 25 (.iload_n 3) 26, rX 26 (.iconst 1) 27 1 0 0,
  r0 27 (.iload_n 1) 28, r0 28 (.ishl) 29, rX 29 (.if_icmp .ge 7) 32 36 0 0, rX 32 (.iconst 1) 33 1 0 0, rX 33 (.goto 4) 36 37 0 0, r0 36 (.iconst 0) 37, r0 37 (.istore 4) 39, r0 39 (.aload_n 0) 40,
  r0 40 (.iload 4) 42, rX 42 (.ifCond .eq 7) 45 49 0 0, r0 45 (.iconst 0) 46, rX 46 (.goto 4) 49 50 0 0, rX 49 (.iconst 2) 50 2 0 0, rX 50 (.invokevirtual 90) 53 138 0 478, rX 53 (.ifCond .ne 5) 56 58 0 0, r0 56 (.iconst 0) 57,
  r0 57 (.ireturn) 58, r0 58 (.iload_n 2) 59, r0 59 (.iload_n 3) 60, r0 60 (.iand) 61, rX 61 (.invokestatic 158) 64 273 1 719, rX 64 (.iconst 1) 65 1 0 0, r0 65 (.iand) 66, rX 66 (.ifCond .ne 7) 69 73 0 0,
  rX 69 (.iconst 1) 70 1 0 0, rX 70 (.goto 4) 73 74 0 0, rX 73 (.iconst (-1)) 74 1 1 0, r0 74 (.ireturn) 75]
def T_w_shine : List Row := [r0 0 (.aload_n 0) 1, r0 1 (.iload_n 1) 2, rX 2 (.invokevirtual 149) 5 140 0 710, rX 5 (.ifCond .eq 26) 8 31 0 0, r0 8 (.aload_n 0) 9, r0 9 (.iload_n 2) 10, rX 10 (.ifCond .lt 14) 13 24 0 0, r0 13 (.iload_n 2) 14,
  rX 14 (.sipush 9999) 17 9999 0 0, rX 17 (.if_icmp .gt 7) 20 24 0 0, r0 20 (.iconst 0) 21, rX 21 (.goto 4) 24 25 0 0, rX 24 (.iconst 2) 25 2 0 0, rX 25 (.invokevirtual 90) 28 138 0 478, rX 28 (.ifCond .ne 5) 31 33 0 0, rX 31 (.iconst (-1)) 32 1 1 0,
  r0 32 (.ireturn) 33, r0 33 (.aload_n 0) 34, rX 34 (.getfield 61) 37 0 7 432, rX 37 (.getfield 173) 40 3 9 205, r0 40 (.iload_n 1) 41, r0 41 (.iaload) 42, r0 42 (.istore_n 3) 43, r0 43 (.aload_n 0) 44,
  rX 44 (.getfield 54) 47 0 6 431, r0 47 (.iconst 0) 48, r0 48 (.iload_n 1) 49, r0 49 (.iload_n 3) 50, rX 50 (.invokevirtual 333) 53 2 0 1084, r0 53 (.aload_n 0) 54, rX 54 (.getfield 61) 57 0 7 432, rX 57 (.getfield 173) 60 3 9 205,
  r0 60 (.iload_n 1) 61, r0 61 (.iload_n 2) 62, r0 62 (.iastore) 63, r0 63 (.aload_n 0) 64, rX 64 (.getfield 26) 67 0 2 427, rX 67 (.invokevirtual 337) 70 57 0 1092, r0 70 (.iload_n 3) 71, r0 71 (.ireturn) 72]
def T_w_stick : List Row := [r0 0 (.aload_n 0) 1, r0 1 (.iload_n 1) 2, rX 2 (.invokevirtual 149) 5 140 0 710, rX 5 (.ifCond .eq 24) 8 29 0 0, r0 8 (.aload_n 0) 9, r0 9 (.iload_n 2) 10, rX 10 (.ifCond .lt 12) 13 22 0 0, r0 13 (.iload_n 2) 14,
  rX 14 (.iconst 2) 15 2 0 0, rX 15 (.if_icmp .gt 7) 18 22 0 0, r0 18 (.iconst 0) 19, rX 19 (.goto 4) 22 23 0 0, rX 22 (.iconst 2) 23 2 0 0, rX 23 (.invokevirtual 90) 26 138 0 478, rX 26 (.ifCond .ne 5) 29 31 0 0, rX 29 (.iconst (-1)) 30 1 1 0,
  r0 30 (.ireturn) 31, r0 31 (.aload_n 0) 32, rX 32 (.getfield 61) 35 0 7 432, r0 35 (.iload_n 1) 36, rX 36 (.invokevirtual 176) 39 18 0 753, r0 39 (.istore_n 3) 40, r0 40 (.aload_n 0) 41, rX 41 (.getfield 54) 44 0 6 431,
  rX 44 (.iconst 1) 45 1 0 0, r0 45 (.iload_n 1) 46, r0 46 (.iload_n 3) 47, rX 47 (.invokevirtual 333) 50 2 0 1084, r0 50 (.aload_n 0) 51, rX 51 (.getfield 61) 54 0 7 432, r0 54 (.iload_n 1) 55, r0 55 (.iload_n 2) 56,
  rX 56 (.invokevirtual 340) 59 19 0 1097, r0 59 (.aload_n 0) 60, rX 60 (.getfield 26) 63 0 2 427, rX 63 (.invokevirtual 337) 66 57 0 1092, r0 66 (.iload_n 3) 67, r0 67 (.ireturn) 68]
def T_w_lose : List Row := [r0 0 (.aload_n 0) 1, r0 1 (.iload_n 1) 2, rX 2 (.invokevirtual 149) 5 140 0 710, rX 5 (.ifCond .eq 26) 8 31 0 0, r0 8 (.aload_n 0) 9, r0 9 (.aload_n 0) 10, rX 10 (.getfield 61) 13 0 7 432, r0 13 (.iload_n 1) 14,
  rX 14 (.invokevirtual 183) 17 12 0 766, rX 17 (.ifCond .eq 7) 20 24 0 0, rX 20 (.iconst 5) 21 5 0 0, rX 21 (.goto 4) 24 25 0 0, r0 24 (.iconst 0) 25, rX 25 (.invokevirtual 90) 28 138 0 478, rX 28 (.ifCond .ne 5) 31 33 0 0, rX 31 (.iconst (-1)) 32 1 1 0,
  r0 32 (.ireturn) 33, r0 33 (.aload_n 0) 34, rX 34 (.getfield 54) 37 0 6 431, rX 37 (.iconst 2) 38 2 0 0, r0 38 (.iload_n 1) 39, r0 39 (.iconst 0) 40, rX 40 (.invokevirtual 333) 43 2 0 1084, r0 43 (.aload_n 0) 44,
  rX 44 (.getfield 61) 47 0 7 432, r0 47 (.dup) 48, rX 48 (.getfield 343) 51 3 7 198, rX 51 (.iconst 1) 52 1 0 0, r0 52 (.iload_n 1) 53, r0 53 (.ishl) 54, r0 54 (.ior) 55, rX 55 (.putfield 343) 58 3 7 198,
  r0 58 (.aload_n 0) 59, rX 59 (.getfield 26) 62 0 2 427, rX 62 (.invokevirtual 337) 65 57 0 1092, r0 65 (.aload_n 0) 66, rX 66 (.getfield 61) 69 0 7 432, rX 69 (.invokevirtual 219) 72 13 0 826, r0 72 (.ireturn) 73]
def T_w_undo : List Row := [r0 0 (.aload_n 0) 1, r0 1 (.aload_n 0) 2, rX 2 (.getfield 65) 5 0 8 433, rX 5 (.ifCond .eq 17) 8 22 0 0, r0 8 (.aload_n 0) 9, rX 9 (.getfield 54) 12 0 6 431, rX 12 (.getfield 346) 15 8 0 410, rX 15 (.ifCond .le 7) 18 22 0 0,
  r0 18 (.iconst 0) 19, rX 19 (.goto 4) 22 23 0 0, rX 22 (.iconst 1) 23 1 0 0, rX 23 (.invokevirtual 90) 26 138 0 478, rX 26 (.ifCond .ne 5) 29 31 0 0, r0 29 (.iconst 0) 30, r0 30 (.ireturn) 31, r0 31 (.aload_n 0) 32,
  rX 32 (.getfield 54) 35 0 6 431, r0 35 (.aload_n 0) 36, rX 36 (.getfield 61) 39 0 7 432, rX 39 (.invokevirtual 349) 42 4 0 1106, r0 42 (.aload_n 0) 43, rX 43 (.getfield 26) 46 0 2 427, rX 46 (.invokevirtual 337) 49 57 0 1092, rX 49 (.iconst 1) 50 1 0 0,
  r0 50 (.ireturn) 51]
def T_w_stuck : List Row := [r0 0 (.iconst 0) 1, r0 1 (.istore_n 2) 2, r0 2 (.aload_n 0) 3, rX 3 (.getfield 65) 6 0 8 433, rX 6 (.ifCond .eq 43) 9 49 0 0, r0 9 (.iconst 0) 10, r0 10 (.istore_n 3) 11, rH 11 (.iload_n 3) 12 0 0 0 0,
  r0 12 (.aload_n 0) 13, rX 13 (.getfield 61) 16 0 7 432, rX 16 (.getfield 124) 19 3 0 170, rX 19 (.if_icmp .ge 30) 22 49 0 0, r0 22 (.aload_n 0) 23, rX 23 (.getfield 61) 26 0 7 432, r0 26 (.iload_n 3) 27, rX 27 (.invokevirtual 176) 30 18 0 753,
  rX 30 (.ifCond .eq 13) 33 43 0 0, r0 33 (.iload_n 2) 34, r0 34 (.iload_n 1) 35, rX 35 (.if_icmp .ne 5) 38 40 0 0, r0 38 (.iload_n 3) 39, r0 39 (.ireturn) 40, rX 40 (.iinc 2 1) 43 1 0 0, rX 43 (.iinc 3 1) 46 1 0 0,
  rX 46 (.goto (-35)) 49 11 0 0, rX 49 (.new 352) 52 99 0 0, r0 52 (.dup) 53, rV 53 (.ldc_w 354) 56 0 0 1167 1, rX 56 (.invokespecial 356) 59 9999 9 0, r0 59 (.athrow) 60]
def T_w_size : List Row := [r0 0 (.iload_n 1) 1, r0 1 (.tableswitch 117 0 5 #[39, 58, 77, 85, 101, 109]) 40, r0 40 (.aload_n 0) 41, rX 41 (.getfield 65) 44 0 8 433, rX 44 (.ifCond .eq 13) 47 57 0 0, r0 47 (.aload_n 0) 48, rX 48 (.getfield 61) 51 0 7 432, rX 51 (.getfield 359) 54 3 4 190,
  rX 54 (.goto 4) 57 58 0 0, r0 57 (.iconst 0) 58, r0 58 (.ireturn) 59, r0 59 (.aload_n 0) 60, rX 60 (.getfield 65) 63 0 8 433, rX 63 (.ifCond .eq 13) 66 76 0 0, r0 66 (.aload_n 0) 67, rX 67 (.getfield 61) 70 0 7 432,
  rX 70 (.invokevirtual 219) 73 13 0 826, rX 73 (.goto 4) 76 77 0 0, r0 76 (.iconst 0) 77, r0 77 (.ireturn) 78, r0 78 (.aload_n 0) 79, rX 79 (.getfield 26) 82 0 2 427, rX 82 (.getfield 194) 85 4 2 293, r0 85 (.ireturn) 86,
  r0 86 (.aload_n 0) 87, rX 87 (.getfield 26) 90 0 2 427, rX 90 (.getfield 213) 93 4 3 295, rX 93 (.ifCond .eq 7) 96 100 0 0, rX 96 (.iconst 1) 97 1 0 0, rX 97 (.goto 4) 100 101 0 0, r0 100 (.iconst 0) 101, r0 101 (.ireturn) 102,
  r0 102 (.aload_n 0) 103, rX 103 (.getfield 54) 106 0 6 431, rX 106 (.getfield 346) 109 8 0 410, r0 109 (.ireturn) 110, r0 110 (.aload_n 0) 111, rX 111 (.getfield 10) 114 0 0 425, rX 114 (.getfield 87) 117 1 1 149, r0 117 (.ireturn) 118,
  rX 118 (.iconst (-1)) 119 1 1 0, r0 119 (.ireturn) 120]
def T_w_trouble : List Row := [r0 0 (.aload_n 0) 1, rX 1 (.getfield 69) 4 0 9 434, r0 4 (.ireturn) 5]
def T_w_settle : List Row := [r0 0 (.aload_n 0) 1, r0 1 (.iload_n 1) 2, rX 2 (.putfield 69) 5 0 9 434, r0 5 (.iload_n 1) 6, rX 6 (.ifCond .ne 7) 9 13 0 0, rX 9 (.iconst 1) 10 1 0 0, rX 10 (.goto 4) 13 14 0 0, r0 13 (.iconst 0) 14,
  r0 14 (.ireturn) 15]
def T_w_haveBench : List Row := [r0 0 (.aload_n 0) 1, r0 1 (.aload_n 0) 2, rX 2 (.getfield 65) 5 0 8 433, rX 5 (.ifCond .eq 7) 8 12 0 0, r0 8 (.iconst 0) 9, rX 9 (.goto 4) 12 13 0 0, rX 12 (.iconst 1) 13 1 0 0, rX 13 (.invokevirtual 90) 16 138 0 478,
  r0 16 (.ireturn) 17]
def T_w_haveOne : List Row := [r0 0 (.aload_n 0) 1, r0 1 (.aload_n 0) 2, rX 2 (.getfield 65) 5 0 8 433, rX 5 (.ifCond .eq 18) 8 23 0 0, r0 8 (.aload_n 0) 9, rX 9 (.getfield 61) 12 0 7 432, r0 12 (.iload_n 1) 13, rX 13 (.invokevirtual 155) 16 9 0 714,
  rX 16 (.ifCond .eq 7) 19 23 0 0, r0 19 (.iconst 0) 20, rX 20 (.goto 4) 23 24 0 0, rX 23 (.iconst 1) 24 1 0 0, rX 24 (.invokevirtual 90) 27 138 0 478, r0 27 (.ireturn) 28]
def T_w_haveSet : List Row := [r0 0 (.aload_n 0) 1, rX 1 (.invokevirtual 203) 4 139 0 728, rX 4 (.ifCond .eq 30) 7 34 0 0, r0 7 (.aload_n 0) 8, r0 8 (.aload_n 0) 9, rX 9 (.getfield 61) 12 0 7 432, r0 12 (.iload_n 1) 13, rX 13 (.invokevirtual 362) 16 11 0 732,
  rX 16 (.ifCond .eq 7) 19 23 0 0, r0 19 (.iconst 0) 20, rX 20 (.goto 4) 23 24 0 0, rX 23 (.iconst 2) 24 2 0 0, rX 24 (.invokevirtual 90) 27 138 0 478, rX 27 (.ifCond .eq 7) 30 34 0 0, rX 30 (.iconst 1) 31 1 0 0, rX 31 (.goto 4) 34 35 0 0,
  r0 34 (.iconst 0) 35, r0 35 (.ireturn) 36]
def T_w_haveBacks : List Row := [r0 0 (.aload_n 0) 1, rX 1 (.invokevirtual 203) 4 139 0 728, rX 4 (.ifCond .eq 40) 7 44 0 0, r0 7 (.aload_n 0) 8, r0 8 (.aload_n 0) 9, rX 9 (.getfield 26) 12 0 2 427, rX 12 (.getfield 213) 15 4 3 295, rX 15 (.ifCond .eq 18) 18 33 0 0,
  r0 18 (.aload_n 0) 19, rX 19 (.getfield 61) 22 0 7 432, rX 22 (.invokevirtual 219) 25 13 0 826, rX 25 (.iconst 2) 26 2 0 0, rX 26 (.if_icmp .ge 7) 29 33 0 0, r0 29 (.iconst 0) 30, rX 30 (.goto 4) 33 34 0 0, rX 33 (.iconst 5) 34 5 0 0,
  rX 34 (.invokevirtual 90) 37 138 0 478, rX 37 (.ifCond .eq 7) 40 44 0 0, rX 40 (.iconst 1) 41 1 0 0, rX 41 (.goto 4) 44 45 0 0, r0 44 (.iconst 0) 45, r0 45 (.ireturn) 46]
def T_w_haveBackOf : List Row := [r0 0 (.aload_n 0) 1, r0 1 (.iload_n 1) 2, rX 2 (.invokevirtual 149) 5 140 0 710, rX 5 (.ifCond .eq 14) 8 19 0 0, r0 8 (.aload_n 0) 9, rX 9 (.invokevirtual 246) 12 142 0 835, rX 12 (.ifCond .eq 7) 15 19 0 0, rX 15 (.iconst 1) 16 1 0 0,
  rX 16 (.goto 4) 19 20 0 0, r0 19 (.iconst 0) 20, r0 20 (.ireturn) 21]
def T_w_haveSuspects : List Row := [r0 0 (.aload_n 0) 1, rX 1 (.invokevirtual 203) 4 139 0 728, rX 4 (.ifCond .eq 39) 7 43 0 0, r0 7 (.aload_n 0) 8, r0 8 (.aload_n 0) 9, rX 9 (.getfield 26) 12 0 2 427, rX 12 (.getfield 213) 15 4 3 295, rX 15 (.ifCond .eq 17) 18 32 0 0,
  r0 18 (.aload_n 0) 19, rX 19 (.getfield 61) 22 0 7 432, rX 22 (.invokevirtual 219) 25 13 0 826, rX 25 (.ifCond .ne 7) 28 32 0 0, r0 28 (.iconst 0) 29, rX 29 (.goto 4) 32 33 0 0, rX 32 (.iconst 5) 33 5 0 0, rX 33 (.invokevirtual 90) 36 138 0 478,
  rX 36 (.ifCond .eq 7) 39 43 0 0, rX 39 (.iconst 1) 40 1 0 0, rX 40 (.goto 4) 43 44 0 0, r0 43 (.iconst 0) 44, r0 44 (.ireturn) 45]
def T_w_haveTold : List Row := [r0 0 (.aload_n 0) 1, r0 1 (.iload_n 1) 2, rX 2 (.invokevirtual 149) 5 140 0 710, rX 5 (.ifCond .eq 30) 8 35 0 0, r0 8 (.aload_n 0) 9, r0 9 (.aload_n 0) 10, rX 10 (.getfield 40) 13 0 4 429, r0 13 (.iload_n 1) 14,
  rX 14 (.invokevirtual 318) 17 24 0 1000, rX 17 (.ifCond .eq 7) 20 24 0 0, r0 20 (.iconst 0) 21, rX 21 (.goto 4) 24 25 0 0, rX 24 (.iconst 5) 25 5 0 0, rX 25 (.invokevirtual 90) 28 138 0 478, rX 28 (.ifCond .eq 7) 31 35 0 0, rX 31 (.iconst 1) 32 1 0 0,
  rX 32 (.goto 4) 35 36 0 0, r0 35 (.iconst 0) 36, r0 36 (.ireturn) 37]
def T_r_init : List Row := [r0 0 (.aload_n 0) 1, rX 1 (.invokespecial 3) 4 0 4 1198, r0 4 (.aload_n 0) 5, rX 5 (.iconst (-1)) 6 1 1 0, rX 6 (.putfield 9) 9 9 2 1202, r0 9 (.aload_n 0) 10, rX 10 (.bipush 31) 12 31 0 0, r0 12 (.newarray .int) 14,
  rX 14 (.putfield 13) 17 9 10 1210, r0 17 (.aload_n 0) 18, rX 18 (.bipush 31) 20 31 0 0, r0 20 (.newarray .int) 22, rX 22 (.putfield 17) 25 9 11 1211, r0 25 (.aload_n 0) 26, rX 26 (.bipush 12) 28 12 0 0, r0 28 (.newarray .int) 30,
  rX 30 (.putfield 20) 33 9 12 1212, r0 33 (.aload_n 0) 34, rX 34 (.bipush 31) 36 31 0 0, r0 36 (.newarray .int) 38, rX 38 (.putfield 23) 41 9 24 1224, r0 41 (.aload_n 0) 42, rX 42 (.bipush 12) 44 12 0 0, r0 44 (.newarray .int) 46,
  rX 46 (.putfield 26) 49 9 25 1225, r0 49 (.aload_n 0) 50, rX 50 (.bipush 63) 52 63 0 0, r0 52 (.newarray .int) 54, rX 54 (.putfield 29) 57 9 27 1227, r0 57 (.aload_n 0) 58, rX 58 (.bipush 63) 60 63 0 0, r0 60 (.newarray .int) 62,
  rX 62 (.putfield 32) 65 9 28 1228, r0 65 (.aload_n 0) 66, rX 66 (.sipush 630) 69 630 0 0, r0 69 (.newarray .int) 71, rX 71 (.putfield 35) 74 9 29 1229, r0 74 (.aload_n 0) 75, rX 75 (.sipush 800) 78 800 0 0, r0 78 (.newarray .byte) 80,
  rX 80 (.putfield 38) 83 9 31 1231, r0 83 (.aload_n 0) 84, rX 84 (.bipush 20) 86 20 0 0, r0 86 (.newarray .int) 88, rX 88 (.putfield 42) 91 9 40 1240, r0 91 (.aload_n 0) 92, rX 92 (.bipush 20) 94 20 0 0, r0 94 (.newarray .int) 96,
  rX 96 (.putfield 45) 99 9 41 1241, r0 99 (.aload_n 0) 100, rX 100 (.bipush 31) 102 31 0 0, r0 102 (.newarray .int) 104, rX 104 (.putfield 48) 107 9 42 1242, r0 107 (.aload_n 0) 108, rX 108 (.bipush 31) 110 31 0 0, r0 110 (.newarray .long) 112,
  rX 112 (.putfield 51) 115 9 47 1247, r0 115 (.aload_n 0) 116, rX 116 (.sipush 528) 119 528 0 0, r0 119 (.newarray .long) 121, rX 121 (.putfield 55) 124 9 48 1248, r0 124 (.aload_n 0) 125, rX 125 (.sipush 528) 128 528 0 0, r0 128 (.newarray .long) 130,
  rX 130 (.putfield 58) 133 9 49 1249, r0 133 (.aload_n 0) 134, rX 134 (.bipush 12) 136 12 0 0, r0 136 (.newarray .int) 138, rX 138 (.putfield 61) 141 9 50 1250, r0 141 (.aload_n 0) 142, rX 142 (.ldc 64) 144 49152 0 1199, r0 144 (.newarray .int) 146,
  rX 146 (.putfield 65) 149 9 53 1253, r0 149 (.return_) 150]
def T_r_thrown : List Row := [r0 0 (.aload_n 0) 1, rX 1 (.getfield 68) 4 9 0 1200, r0 4 (.ireturn) 5]
def T_r_refused : List Row := [r0 0 (.aload_n 0) 1, r0 1 (.iload_n 1) 2, rX 2 (.putfield 71) 5 9 1 1201, r0 5 (.aload_n 0) 6, rX 6 (.iconst (-1)) 7 1 1 0, rX 7 (.putfield 9) 10 9 2 1202, rX 10 (.iconst (-1)) 11 1 1 0, r0 11 (.ireturn) 12]
def T_r_refusedLong : List Row := [r0 0 (.aload_n 0) 1, r0 1 (.iload_n 1) 2, rX 2 (.invokevirtual 74) 5 148 0 1375, r0 5 (.pop) 6, rX 6 (.ldc2_w 80) 9 9223372036854775808 1 1633, r0 9 (.lreturn) 10]
def T_r_good : List Row := [r0 0 (.aload_n 0) 1, r0 1 (.iconst 0) 2, rX 2 (.putfield 71) 5 9 1 1201, r0 5 (.aload_n 0) 6, rX 6 (.iconst (-1)) 7 1 1 0, rX 7 (.putfield 9) 10 9 2 1202, r0 10 (.iload_n 1) 11, r0 11 (.ireturn) 12]
def T_r_in : List Row := [r0 0 (.iload_n 0) 1, r0 1 (.iload_n 1) 2, rX 2 (.if_icmp .lt 12) 5 14 0 0, r0 5 (.iload_n 0) 6, r0 6 (.iload_n 2) 7, rX 7 (.if_icmp .gt 7) 10 14 0 0, rX 10 (.iconst 1) 11 1 0 0, rX 11 (.goto 4) 14 15 0 0,
  r0 14 (.iconst 0) 15, r0 15 (.ireturn) 16]
def T_r_has : List Row := [r0 0 (.iload_n 0) 1, r0 1 (.iload_n 1) 2, r0 2 (.ishr) 3, rX 3 (.iconst 1) 4 1 0 0, r0 4 (.iand) 5, rX 5 (.iconst 1) 6 1 0 0, rX 6 (.if_icmp .ne 7) 9 13 0 0, rX 9 (.iconst 1) 10 1 0 0,
  rX 10 (.goto 4) 13 14 0 0, r0 13 (.iconst 0) 14, r0 14 (.ireturn) 15]
def T_r_many : List Row := [r0 0 (.iconst 0) 1, r0 1 (.istore_n 1) 2, r0 2 (.iload_n 0) 3, r0 3 (.istore_n 2) 4, rH 4 (.iload_n 2) 5 0 0 0 0, rX 5 (.ifCond .eq 15) 8 20 0 0, rX 8 (.iinc 1 1) 11 1 0 0, r0 11 (.iload_n 2) 12,
  r0 12 (.iload_n 2) 13, rX 13 (.iconst 1) 14 1 0 0, r0 14 (.isub) 15, r0 15 (.iand) 16, r0 16 (.istore_n 2) 17, rX 17 (.goto (-13)) 20 4 0 0, r0 20 (.iload_n 1) 21, r0 21 (.ireturn) 22]
def T_r_divisor : List Row := [r0 0 (.lload_n 0) 1, r0 1 (.lconst 0) 2, r0 2 (.lcmp) 3, rX 3 (.ifCond .ge 8) 6 11 0 0, r0 6 (.lload_n 0) 7, r0 7 (.lneg) 8, rX 8 (.goto 4) 11 12 0 0, r0 11 (.lload_n 0) 12,
  r0 12 (.lstore 4) 14, r0 14 (.lload_n 2) 15, r0 15 (.lstore 6) 17, rH 17 (.lload 6) 19 0 0 0 0, r0 19 (.lconst 0) 20, r0 20 (.lcmp) 21, rX 21 (.ifCond .eq 21) 24 42 0 0, r0 24 (.lload 4) 26,
  r0 26 (.lload 6) 28, r0 28 (.lrem) 29, r0 29 (.lstore 8) 31, r0 31 (.lload 6) 33, r0 33 (.lstore 4) 35, r0 35 (.lload 8) 37, r0 37 (.lstore 6) 39, rX 39 (.goto (-22)) 42 17 0 0,
  r0 42 (.lload 4) 44, r0 44 (.lreturn) 45]
def T_r_sets : List Row := [r0 0 (.lload_n 1) 1, r0 1 (.lload_n 3) 2, rX 2 (.invokestatic 82) 5 154 1 1648, r0 5 (.lstore 5) 7, r0 7 (.aload_n 0) 8, r0 8 (.lload_n 1) 9, r0 9 (.lload 5) 11, r0 11 (.ldiv) 12,
  rX 12 (.putfield 86) 15 9 3 1203, r0 15 (.aload_n 0) 16, r0 16 (.lload_n 3) 17, r0 17 (.lload 5) 19, r0 19 (.ldiv) 20, rX 20 (.putfield 90) 23 9 4 1204, r0 23 (.return_) 24]
def T_r_part : List Row := [r0 0 (.aload_n 0) 1, r0 1 (.iconst 0) 2, rX 2 (.invokevirtual 93) 5 150 0 1505, r0 5 (.pop) 6, r0 6 (.iload_n 1) 7, rX 7 (.ifCond .eq 10) 10 17 0 0, r0 10 (.aload_n 0) 11, rX 11 (.getfield 90) 14 9 4 1204,
  rX 14 (.goto 7) 17 21 0 0, r0 17 (.aload_n 0) 18, rX 18 (.getfield 86) 21 9 3 1203, r0 21 (.lreturn) 22]
def T_r_byteAt : List Row := [r0 0 (.iload_n 1) 1, r0 1 (.aload_n 0) 2, rX 2 (.getfield 96) 5 9 33 1233, rX 5 (.if_icmp .ge 16) 8 21 0 0, r0 8 (.aload_n 0) 9, rX 9 (.getfield 38) 12 9 31 1231, r0 12 (.iload_n 1) 13, r0 13 (.baload) 14,
  rX 14 (.sipush 255) 17 255 0 0, r0 17 (.iand) 18, rX 18 (.goto 4) 21 22 0 0, rX 21 (.iconst (-1)) 22 1 1 0, r0 22 (.ireturn) 23]
def T_r_next : List Row := [r0 0 (.aload_n 0) 1, rX 1 (.getfield 99) 4 9 38 1238, rX 4 (.ifCond .le 4) 7 8 0 0, r0 7 (.return_) 8, rH 8 (.aload_n 0) 9 0 0 0 0, r0 9 (.aload_n 0) 10, rX 10 (.getfield 102) 13 9 34 1234, rX 13 (.invokevirtual 105) 16 157 0 1387,
  rX 16 (.bipush 32) 18 32 0 0, rX 18 (.if_icmp .ne 16) 21 34 0 0, r0 21 (.aload_n 0) 22, r0 22 (.dup) 23, rX 23 (.getfield 102) 26 9 34 1234, rX 26 (.iconst 1) 27 1 0 0, r0 27 (.iadd) 28, rX 28 (.putfield 102) 31 9 34 1234,
  rX 31 (.goto (-23)) 34 8 0 0, r0 34 (.aload_n 0) 35, r0 35 (.aload_n 0) 36, rX 36 (.getfield 102) 39 9 34 1234, rX 39 (.putfield 108) 42 9 36 1236, r0 42 (.aload_n 0) 43, r0 43 (.aload_n 0) 44, rX 44 (.getfield 102) 47 9 34 1234,
  rX 47 (.invokevirtual 105) 50 157 0 1387, r0 50 (.istore_n 1) 51, r0 51 (.iload_n 1) 52, rX 52 (.iconst (-1)) 53 1 1 0, rX 53 (.if_icmp .ne 11) 56 64 0 0, r0 56 (.aload_n 0) 57, rX 57 (.iconst 1) 58 1 0 0, rX 58 (.putfield 111) 61 9 35 1235,
  rX 61 (.goto 44) 64 105 0 0, r0 64 (.iload_n 1) 65, rX 65 (.bipush 97) 67 97 0 0, rX 67 (.bipush 122) 69 122 0 0, rX 69 (.invokestatic 114) 72 151 1 1391, rX 72 (.ifCond .eq 10) 75 82 0 0, r0 75 (.aload_n 0) 76, rX 76 (.invokevirtual 118) 79 159 0 1394,
  rX 79 (.goto 26) 82 105 0 0, r0 82 (.iload_n 1) 83, rX 83 (.bipush 48) 85 48 0 0, rX 85 (.bipush 57) 87 57 0 0, rX 87 (.invokestatic 114) 90 151 1 1391, rX 90 (.ifCond .eq 10) 93 100 0 0, r0 93 (.aload_n 0) 94, rX 94 (.invokevirtual 121) 97 160 0 1398,
  rX 97 (.goto 8) 100 105 0 0, r0 100 (.aload_n 0) 101, r0 101 (.iload_n 1) 102, rX 102 (.invokevirtual 124) 105 161 0 1402, r0 105 (.return_) 106]
def T_r_nextWord : List Row := [r0 0 (.aload_n 0) 1, r0 1 (.lconst 0) 2, rX 2 (.putfield 128) 5 9 39 1239, rH 5 (.aload_n 0) 6 0 0 0 0, r0 6 (.aload_n 0) 7, rX 7 (.getfield 102) 10 9 34 1234, rX 10 (.invokevirtual 105) 13 157 0 1387, rX 13 (.bipush 97) 15 97 0 0,
  rX 15 (.bipush 122) 17 122 0 0, rX 17 (.invokestatic 114) 20 151 1 1391, rX 20 (.ifCond .eq 51) 23 71 0 0, r0 23 (.aload_n 0) 24, rX 24 (.getfield 102) 27 9 34 1234, r0 27 (.aload_n 0) 28, rX 28 (.getfield 108) 31 9 36 1236, r0 31 (.isub) 32,
  rX 32 (.bipush 7) 34 7 0 0, rX 34 (.if_icmp .ge 24) 37 58 0 0, r0 37 (.aload_n 0) 38, r0 38 (.aload_n 0) 39, rX 39 (.getfield 128) 42 9 39 1239, rX 42 (.bipush 8) 44 8 0 0, r0 44 (.lshl) 45, r0 45 (.aload_n 0) 46,
  r0 46 (.aload_n 0) 47, rX 47 (.getfield 102) 50 9 34 1234, rX 50 (.invokevirtual 105) 53 157 0 1387, r0 53 (.i2l) 54, r0 54 (.lor) 55, rX 55 (.putfield 128) 58 9 39 1239, r0 58 (.aload_n 0) 59, r0 59 (.dup) 60,
  rX 60 (.getfield 102) 63 9 34 1234, rX 63 (.iconst 1) 64 1 0 0, r0 64 (.iadd) 65, rX 65 (.putfield 102) 68 9 34 1234, rX 68 (.goto (-63)) 71 5 0 0, r0 71 (.aload_n 0) 72, r0 72 (.aload_n 0) 73, rX 73 (.getfield 102) 76 9 34 1234,
  r0 76 (.aload_n 0) 77, rX 77 (.getfield 108) 80 9 36 1236, r0 80 (.isub) 81, rX 81 (.bipush 7) 83 7 0 0, rX 83 (.if_icmp .le 7) 86 90 0 0, r0 86 (.iconst 0) 87, rX 87 (.goto 4) 90 91 0 0, rX 90 (.iconst 2) 91 2 0 0,
  rX 91 (.putfield 111) 94 9 35 1235, r0 94 (.return_) 95]
def T_r_nextWhole : List Row := [r0 0 (.aload_n 0) 1, r0 1 (.iconst 0) 2, rX 2 (.putfield 131) 5 9 37 1237, rH 5 (.aload_n 0) 6 0 0 0 0, r0 6 (.aload_n 0) 7, rX 7 (.getfield 102) 10 9 34 1234, rX 10 (.invokevirtual 105) 13 157 0 1387, rX 13 (.bipush 48) 15 48 0 0,
  rX 15 (.bipush 57) 17 57 0 0, rX 17 (.invokestatic 114) 20 151 1 1391, rX 20 (.ifCond .eq 53) 23 73 0 0, r0 23 (.aload_n 0) 24, rX 24 (.getfield 102) 27 9 34 1234, r0 27 (.aload_n 0) 28, rX 28 (.getfield 108) 31 9 36 1236, r0 31 (.isub) 32,
  rX 32 (.bipush 6) 34 6 0 0, rX 34 (.if_icmp .ge 26) 37 60 0 0, r0 37 (.aload_n 0) 38, rX 38 (.bipush 10) 40 10 0 0, r0 40 (.aload_n 0) 41, rX 41 (.getfield 131) 44 9 37 1237, r0 44 (.imul) 45, r0 45 (.aload_n 0) 46,
  r0 46 (.aload_n 0) 47, rX 47 (.getfield 102) 50 9 34 1234, rX 50 (.invokevirtual 105) 53 157 0 1387, r0 53 (.iadd) 54, rX 54 (.bipush 48) 56 48 0 0, r0 56 (.isub) 57, rX 57 (.putfield 131) 60 9 37 1237, r0 60 (.aload_n 0) 61,
  r0 61 (.dup) 62, rX 62 (.getfield 102) 65 9 34 1234, rX 65 (.iconst 1) 66 1 0 0, r0 66 (.iadd) 67, rX 67 (.putfield 102) 70 9 34 1234, rX 70 (.goto (-65)) 73 5 0 0, r0 73 (.aload_n 0) 74, r0 74 (.aload_n 0) 75,
  rX 75 (.getfield 102) 78 9 34 1234, r0 78 (.aload_n 0) 79, rX 79 (.getfield 108) 82 9 36 1236, r0 82 (.isub) 83, rX 83 (.bipush 6) 85 6 0 0, rX 85 (.if_icmp .le 7) 88 92 0 0, r0 88 (.iconst 0) 89, rX 89 (.goto 4) 92 93 0 0,
  rX 92 (.iconst 3) 93 3 0 0, rX 93 (.putfield 111) 96 9 35 1235, r0 96 (.return_) 97]
def T_r_nextSign : List Row := [r0 0 (.aload_n 0) 1, r0 1 (.iload_n 1) 2, rX 2 (.bipush 59) 4 59 0 0, rX 4 (.if_icmp .ne 7) 7 11 0 0, rX 7 (.iconst 4) 8 4 0 0, rX 8 (.goto 4) 11 12 0 0, r0 11 (.iconst 0) 12, rX 12 (.putfield 111) 15 9 35 1235,
  r0 15 (.iload_n 1) 16, rX 16 (.bipush 59) 18 59 0 0, rX 18 (.if_icmp .ne 13) 21 31 0 0, r0 21 (.aload_n 0) 22, r0 22 (.dup) 23, rX 23 (.getfield 102) 26 9 34 1234, rX 26 (.iconst 1) 27 1 0 0, r0 27 (.iadd) 28,
  rX 28 (.putfield 102) 31 9 34 1234, r0 31 (.return_) 32]
def T_r_flaw : List Row := [r0 0 (.aload_n 0) 1, rX 1 (.getfield 99) 4 9 38 1238, rX 4 (.ifCond .ne 8) 7 12 0 0, r0 7 (.aload_n 0) 8, r0 8 (.iload_n 1) 9, rX 9 (.putfield 99) 12 9 38 1238, r0 12 (.aload_n 0) 13, r0 13 (.iconst 0) 14,
  rX 14 (.putfield 111) 17 9 35 1235, r0 17 (.return_) 18]
def T_r_isWord : List Row := [r0 0 (.lconst 0) 1, r0 1 (.lstore_n 2) 2, r0 2 (.iconst 0) 3, r0 3 (.istore 4) 5, rH 5 (.iload 4) 7 0 0 0 0, r0 7 (.aload_n 1) 8, rX 8 (.invokevirtual 134) 11 274 0 1415, rX 11 (.if_icmp .ge 22) 14 33 0 0,
  r0 14 (.lload_n 2) 15, rX 15 (.bipush 8) 17 8 0 0, r0 17 (.lshl) 18, r0 18 (.aload_n 1) 19, r0 19 (.iload 4) 21, rX 21 (.invokevirtual 140) 24 275 0 1416, r0 24 (.i2l) 25, r0 25 (.lor) 26,
  r0 26 (.lstore_n 2) 27, rX 27 (.iinc 4 1) 30 1 0 0, rX 30 (.goto (-25)) 33 5 0 0, r0 33 (.aload_n 0) 34, rX 34 (.getfield 111) 37 9 35 1235, rX 37 (.iconst 2) 38 2 0 0, rX 38 (.if_icmp .ne 16) 41 54 0 0, r0 41 (.aload_n 0) 42,
  rX 42 (.getfield 128) 45 9 39 1239, r0 45 (.lload_n 2) 46, r0 46 (.lcmp) 47, rX 47 (.ifCond .ne 7) 50 54 0 0, rX 50 (.iconst 1) 51 1 0 0, rX 51 (.goto 4) 54 55 0 0, r0 54 (.iconst 0) 55, r0 55 (.ireturn) 56]
def T_r_needs : List Row := [r0 0 (.aload_n 0) 1, r0 1 (.aload_n 1) 2, rX 2 (.invokevirtual 144) 5 163 0 1411, rX 5 (.ifCond .ne 8) 8 13 0 0, r0 8 (.aload_n 0) 9, rX 9 (.iconst 1) 10 1 0 0, rX 10 (.invokevirtual 148) 13 162 0 1421, r0 13 (.aload_n 0) 14,
  rX 14 (.invokevirtual 151) 17 158 0 1383, r0 17 (.return_) 18]
def T_r_wholeAt : List Row := [r0 0 (.aload_n 0) 1, rX 1 (.getfield 111) 4 9 35 1235, rX 4 (.iconst 3) 5 3 0 0, rX 5 (.if_icmp .eq 11) 8 16 0 0, r0 8 (.aload_n 0) 9, rX 9 (.iconst 1) 10 1 0 0, rX 10 (.invokevirtual 148) 13 162 0 1421, rX 13 (.goto 20) 16 33 0 0,
  r0 16 (.aload_n 0) 17, rX 17 (.getfield 131) 20 9 37 1237, r0 20 (.iload_n 1) 21, r0 21 (.iload_n 2) 22, rX 22 (.invokestatic 114) 25 151 1 1391, rX 25 (.ifCond .ne 8) 28 33 0 0, r0 28 (.aload_n 0) 29, rX 29 (.iconst 2) 30 2 0 0,
  rX 30 (.invokevirtual 148) 33 162 0 1421, r0 33 (.aload_n 0) 34, rX 34 (.getfield 99) 37 9 38 1238, rX 37 (.ifCond .le 7) 40 44 0 0, r0 40 (.iload_n 1) 41, rX 41 (.goto 7) 44 48 0 0, r0 44 (.aload_n 0) 45, rX 45 (.getfield 131) 48 9 37 1237,
  r0 48 (.ireturn) 49]
def T_r_readWhole : List Row := [r0 0 (.aload_n 0) 1, r0 1 (.iload_n 1) 2, r0 2 (.iload_n 2) 3, rX 3 (.invokevirtual 154) 6 165 0 1431, r0 6 (.istore_n 3) 7, r0 7 (.aload_n 0) 8, rX 8 (.invokevirtual 151) 11 158 0 1383, r0 11 (.iload_n 3) 12,
  r0 12 (.ireturn) 13]
def T_r_readNew : List Row := [r0 0 (.aload_n 0) 1, r0 1 (.iconst 0) 2, r0 2 (.aload_n 0) 3, rX 3 (.getfield 158) 6 9 13 1213, rX 6 (.iconst 1) 7 1 0 0, r0 7 (.isub) 8, rX 8 (.invokevirtual 154) 11 165 0 1431, r0 11 (.istore_n 2) 12,
  r0 12 (.aload_n 0) 13, rX 13 (.getfield 99) 16 9 38 1238, rX 16 (.ifCond .ne 16) 19 32 0 0, r0 19 (.iload_n 1) 20, r0 20 (.iload_n 2) 21, rX 21 (.invokestatic 161) 24 152 1 1459, rX 24 (.ifCond .eq 8) 27 32 0 0, r0 27 (.aload_n 0) 28,
  rX 28 (.iconst 3) 29 3 0 0, rX 29 (.invokevirtual 148) 32 162 0 1421, r0 32 (.aload_n 0) 33, rX 33 (.invokevirtual 151) 36 158 0 1383, r0 36 (.aload_n 0) 37, rX 37 (.getfield 99) 40 9 38 1238, rX 40 (.ifCond .le 7) 43 47 0 0, r0 43 (.iconst 0) 44,
  rX 44 (.goto 4) 47 48 0 0, r0 47 (.iload_n 2) 48, r0 48 (.ireturn) 49]
def T_r_readAll : List Row := [r0 0 (.aload_n 0) 1, r0 1 (.iconst 0) 2, rX 2 (.putfield 158) 5 9 13 1213, r0 5 (.aload_n 0) 6, r0 6 (.iconst 0) 7, rX 7 (.putfield 165) 10 9 17 1217, r0 10 (.aload_n 0) 11, r0 11 (.iconst 0) 12,
  rX 12 (.putfield 168) 15 9 18 1218, r0 15 (.aload_n 0) 16, r0 16 (.iconst 0) 17, rX 17 (.putfield 171) 20 9 19 1219, r0 20 (.aload_n 0) 21, r0 21 (.iconst 0) 22, rX 22 (.putfield 174) 25 9 20 1220, r0 25 (.aload_n 0) 26,
  r0 26 (.iconst 0) 27, rX 27 (.putfield 177) 30 9 21 1221, r0 30 (.aload_n 0) 31, r0 31 (.iconst 0) 32, rX 32 (.putfield 180) 35 9 22 1222, r0 35 (.aload_n 0) 36, r0 36 (.iconst 0) 37, rX 37 (.putfield 183) 40 9 23 1223,
  r0 40 (.iconst 0) 41, r0 41 (.istore_n 1) 42, rH 42 (.iload_n 1) 43 0 0 0 0, rX 43 (.bipush 63) 45 63 0 0, rX 45 (.if_icmp .ge 16) 48 61 0 0, r0 48 (.aload_n 0) 49, rX 49 (.getfield 32) 52 9 28 1228, r0 52 (.iload_n 1) 53,
  r0 53 (.iconst 0) 54, r0 54 (.iastore) 55, rX 55 (.iinc 1 1) 58 1 0 0, rX 58 (.goto (-16)) 61 42 0 0, r0 61 (.iconst 0) 62, r0 62 (.istore_n 1) 63, rH 63 (.iload_n 1) 64 0 0 0 0, rX 64 (.bipush 31) 66 31 0 0,
  rX 66 (.if_icmp .ge 16) 69 82 0 0, r0 69 (.aload_n 0) 70, rX 70 (.getfield 23) 73 9 24 1224, r0 73 (.iload_n 1) 74, r0 74 (.iconst 0) 75, r0 75 (.iastore) 76, rX 76 (.iinc 1 1) 79 1 0 0, rX 79 (.goto (-16)) 82 63 0 0,
  r0 82 (.aload_n 0) 83, rX 83 (.invokevirtual 151) 86 158 0 1383, r0 86 (.aload_n 0) 87, rX 87 (.invokevirtual 186) 90 169 0 1406, rH 90 (.aload_n 0) 91 0 0 0 0, rX 91 (.getfield 111) 94 9 35 1235, rX 94 (.iconst 4) 95 4 0 0, rX 95 (.if_icmp .ne 14) 98 109 0 0,
  r0 98 (.aload_n 0) 99, rX 99 (.invokevirtual 151) 102 158 0 1383, r0 102 (.aload_n 0) 103, rX 103 (.invokevirtual 186) 106 169 0 1406, rX 106 (.goto (-16)) 109 90 0 0, r0 109 (.aload_n 0) 110, rX 110 (.getfield 111) 113 9 35 1235, rX 113 (.iconst 1) 114 1 0 0,
  rX 114 (.if_icmp .eq 8) 117 122 0 0, r0 117 (.aload_n 0) 118, rX 118 (.iconst 1) 119 1 0 0, rX 119 (.invokevirtual 148) 122 162 0 1421, r0 122 (.aload_n 0) 123, rX 123 (.getfield 99) 126 9 38 1238, rX 126 (.ifCond .ne 15) 129 141 0 0, r0 129 (.aload_n 0) 130,
  rX 130 (.getfield 158) 133 9 13 1213, rX 133 (.ifCond .ne 8) 136 141 0 0, r0 136 (.aload_n 0) 137, rX 137 (.iconst 5) 138 5 0 0, rX 138 (.invokevirtual 148) 141 162 0 1421, r0 141 (.return_) 142]
def T_r_readLine : List Row := [r0 0 (.aload_n 0) 1, rV 1 (.ldc 189) 3 1 15 1410 1, rX 3 (.invokevirtual 144) 6 163 0 1411, rX 6 (.ifCond .eq 10) 9 16 0 0, r0 9 (.aload_n 0) 10, rX 10 (.invokevirtual 191) 13 171 0 1417, rX 13 (.goto 88) 16 101 0 0, r0 16 (.aload_n 0) 17,
  rV 17 (.ldc 194) 19 2 16 1446 1, rX 19 (.invokevirtual 144) 22 163 0 1411, rX 22 (.ifCond .eq 10) 25 32 0 0, r0 25 (.aload_n 0) 26, rX 26 (.invokevirtual 196) 29 173 0 1447, rX 29 (.goto 72) 32 101 0 0, r0 32 (.aload_n 0) 33, rV 33 (.ldc 199) 35 3 17 1462 1,
  rX 35 (.invokevirtual 144) 38 163 0 1411, rX 38 (.ifCond .eq 10) 41 48 0 0, r0 41 (.aload_n 0) 42, rX 42 (.invokevirtual 201) 45 174 0 1463, rX 45 (.goto 56) 48 101 0 0, r0 48 (.aload_n 0) 49, rV 49 (.ldc 204) 51 4 18 1469 1, rX 51 (.invokevirtual 144) 54 163 0 1411,
  rX 54 (.ifCond .eq 10) 57 64 0 0, r0 57 (.aload_n 0) 58, rX 58 (.invokevirtual 205) 61 175 0 1470, rX 61 (.goto 40) 64 101 0 0, r0 64 (.aload_n 0) 65, rV 65 (.ldc 208) 67 5 19 1476 1, rX 67 (.invokevirtual 144) 70 163 0 1411, rX 70 (.ifCond .eq 10) 73 80 0 0,
  r0 73 (.aload_n 0) 74, rX 74 (.invokevirtual 210) 77 176 0 1477, rX 77 (.goto 24) 80 101 0 0, r0 80 (.aload_n 0) 81, rV 81 (.ldc 213) 83 6 20 1481 1, rX 83 (.invokevirtual 144) 86 163 0 1411, rX 86 (.ifCond .eq 10) 89 96 0 0, r0 89 (.aload_n 0) 90,
  rX 90 (.invokevirtual 214) 93 177 0 1482, rX 93 (.goto 8) 96 101 0 0, r0 96 (.aload_n 0) 97, rX 97 (.iconst 1) 98 1 0 0, rX 98 (.invokevirtual 148) 101 162 0 1421, r0 101 (.return_) 102]
def T_r_begins : List Row := [r0 0 (.iload_n 1) 1, rX 1 (.ifCond .eq 8) 4 9 0 0, r0 4 (.aload_n 0) 5, rX 5 (.iconst 4) 6 4 0 0, rX 6 (.invokevirtual 148) 9 162 0 1421, r0 9 (.aload_n 0) 10, rX 10 (.getfield 158) 13 9 13 1213, rX 13 (.ifCond .ne 8) 16 21 0 0,
  r0 16 (.aload_n 0) 17, rX 17 (.iconst 5) 18 5 0 0, rX 18 (.invokevirtual 148) 21 162 0 1421, r0 21 (.aload_n 0) 22, rX 22 (.invokevirtual 151) 25 158 0 1383, r0 25 (.return_) 26]
def T_r_readBench : List Row := [r0 0 (.aload_n 0) 1, rX 1 (.getfield 158) 4 9 13 1213, rX 4 (.ifCond .le 8) 7 12 0 0, r0 7 (.aload_n 0) 8, rX 8 (.iconst 3) 9 3 0 0, rX 9 (.invokevirtual 148) 12 162 0 1421, r0 12 (.aload_n 0) 13, rX 13 (.invokevirtual 151) 16 158 0 1383,
  r0 16 (.aload_n 0) 17, rV 17 (.ldc 217) 19 7 21 1425 1, rX 19 (.invokevirtual 144) 22 163 0 1411, r0 22 (.istore_n 1) 23, r0 23 (.iload_n 1) 24, rX 24 (.ifCond .ne 17) 27 41 0 0, r0 27 (.aload_n 0) 28, rV 28 (.ldc 219) 30 8 22 1426 1,
  rX 30 (.invokevirtual 144) 33 163 0 1411, rX 33 (.ifCond .ne 8) 36 41 0 0, r0 36 (.aload_n 0) 37, rX 37 (.iconst 1) 38 1 0 0, rX 38 (.invokevirtual 148) 41 162 0 1421, r0 41 (.aload_n 0) 42, rX 42 (.invokevirtual 151) 45 158 0 1383, r0 45 (.iload_n 1) 46,
  rX 46 (.ifCond .eq 12) 49 58 0 0, r0 49 (.aload_n 0) 50, rX 50 (.iconst 2) 51 2 0 0, rX 51 (.iconst 5) 52 5 0 0, rX 52 (.invokevirtual 221) 55 166 0 1427, rX 55 (.goto 7) 58 62 0 0, r0 58 (.aload_n 0) 59, rX 59 (.invokevirtual 224) 62 172 0 1435,
  r0 62 (.istore_n 2) 63, r0 63 (.aload_n 0) 64, rV 64 (.ldc 227) 66 9 23 1439 1, rX 66 (.invokevirtual 229) 69 164 0 1440, r0 69 (.aload_n 0) 70, r0 70 (.iconst 0) 71, rX 71 (.sipush 999) 74 999 0 0, rX 74 (.invokevirtual 221) 77 166 0 1427,
  r0 77 (.istore_n 3) 78, r0 78 (.aload_n 0) 79, rV 79 (.ldc 233) 81 10 24 1444 1, rX 81 (.invokevirtual 229) 84 164 0 1440, r0 84 (.aload_n 0) 85, rX 85 (.iconst 1) 86 1 0 0, rX 86 (.ldc 235) 88 999999 0 1445, rX 88 (.invokevirtual 221) 91 166 0 1427,
  r0 91 (.istore 4) 93, r0 93 (.aload_n 0) 94, rX 94 (.getfield 99) 97 9 38 1238, rX 97 (.ifCond .le 4) 100 101 0 0, r0 100 (.return_) 101, r0 101 (.aload_n 0) 102, r0 102 (.iload_n 1) 103, rX 103 (.ifCond .eq 11) 106 114 0 0,
  rX 106 (.iconst 1) 107 1 0 0, r0 107 (.iload_n 2) 108, r0 108 (.ishl) 109, rX 109 (.iconst 1) 110 1 0 0, r0 110 (.isub) 111, rX 111 (.goto 4) 114 115 0 0, r0 114 (.iload_n 2) 115, rX 115 (.putfield 158) 118 9 13 1213,
  r0 118 (.aload_n 0) 119, r0 119 (.iload_n 1) 120, rX 120 (.ifCond .eq 7) 123 127 0 0, r0 123 (.iconst 0) 124, rX 124 (.goto 4) 127 128 0 0, rX 127 (.iconst 1) 128 1 0 0, rX 128 (.putfield 236) 131 9 14 1214, r0 131 (.aload_n 0) 132,
  r0 132 (.iload_n 3) 133, rX 133 (.putfield 239) 136 9 15 1215, r0 136 (.aload_n 0) 137, r0 137 (.iload 4) 139, rX 139 (.putfield 242) 142 9 16 1216, r0 142 (.return_) 143]
def T_r_readOrder : List Row := [r0 0 (.aload_n 0) 1, rX 1 (.iconst 3) 2 3 0 0, rX 2 (.bipush 31) 4 31 0 0, rX 4 (.invokevirtual 154) 7 165 0 1431, r0 7 (.istore_n 1) 8, r0 8 (.iload_n 1) 9, r0 9 (.lookupswitch 62 #[(3, 59), (7, 59), (11, 59), (19, 59), (23, 59), (31, 59)]) 68, rX 68 (.goto 15) 71 83 0 0,
  r0 71 (.aload_n 0) 72, rX 72 (.getfield 99) 75 9 38 1238, rX 75 (.ifCond .ne 8) 78 83 0 0, r0 78 (.aload_n 0) 79, rX 79 (.iconst 2) 80 2 0 0, rX 80 (.invokevirtual 148) 83 162 0 1421, r0 83 (.aload_n 0) 84, rX 84 (.invokevirtual 151) 87 158 0 1383,
  r0 87 (.iload_n 1) 88, r0 88 (.ireturn) 89]
def T_r_readLight : List Row := [r0 0 (.aload_n 0) 1, r0 1 (.iconst 0) 2, rX 2 (.invokevirtual 245) 5 170 0 1451, r0 5 (.aload_n 0) 6, r0 6 (.aload_n 0) 7, rX 7 (.getfield 177) 10 9 21 1221, rX 10 (.invokevirtual 249) 13 167 0 1455, r0 13 (.istore_n 1) 14,
  r0 14 (.aload_n 0) 15, r0 15 (.iconst 0) 16, rX 16 (.sipush 9999) 19 9999 0 0, rX 19 (.invokevirtual 221) 22 166 0 1427, r0 22 (.istore_n 2) 23, r0 23 (.aload_n 0) 24, rX 24 (.getfield 99) 27 9 38 1238, rX 27 (.ifCond .le 4) 30 31 0 0,
  r0 30 (.return_) 31, r0 31 (.aload_n 0) 32, r0 32 (.dup) 33, rX 33 (.getfield 177) 36 9 21 1221, rX 36 (.iconst 1) 37 1 0 0, r0 37 (.iload_n 1) 38, r0 38 (.ishl) 39, r0 39 (.ior) 40,
  rX 40 (.putfield 177) 43 9 21 1221, r0 43 (.aload_n 0) 44, rX 44 (.getfield 32) 47 9 28 1228, r0 47 (.iload_n 1) 48, r0 48 (.iload_n 2) 49, r0 49 (.iastore) 50, r0 50 (.return_) 51]
def T_r_readStuckOne : List Row := [r0 0 (.aload_n 0) 1, r0 1 (.aload_n 0) 2, rX 2 (.getfield 168) 5 9 18 1218, rX 5 (.iconst 3) 6 3 0 0, rX 6 (.if_icmp .ne 7) 9 13 0 0, rX 9 (.iconst 1) 10 1 0 0, rX 10 (.goto 4) 13 14 0 0, r0 13 (.iconst 0) 14,
  rX 14 (.invokevirtual 245) 17 170 0 1451, r0 17 (.aload_n 0) 18, r0 18 (.aload_n 0) 19, rX 19 (.getfield 180) 22 9 22 1222, rX 22 (.invokevirtual 249) 25 167 0 1455, r0 25 (.istore_n 1) 26, r0 26 (.aload_n 0) 27, rV 27 (.ldc 252) 29 11 25 1467 1,
  rX 29 (.invokevirtual 144) 32 163 0 1411, r0 32 (.istore_n 2) 33, r0 33 (.iload_n 2) 34, rX 34 (.ifCond .ne 17) 37 51 0 0, r0 37 (.aload_n 0) 38, rV 38 (.ldc 254) 40 12 26 1468 1, rX 40 (.invokevirtual 144) 43 163 0 1411, rX 43 (.ifCond .ne 8) 46 51 0 0,
  r0 46 (.aload_n 0) 47, rX 47 (.iconst 1) 48 1 0 0, rX 48 (.invokevirtual 148) 51 162 0 1421, r0 51 (.aload_n 0) 52, rX 52 (.invokevirtual 151) 55 158 0 1383, r0 55 (.aload_n 0) 56, rX 56 (.getfield 99) 59 9 38 1238, rX 59 (.ifCond .le 4) 62 63 0 0,
  r0 62 (.return_) 63, r0 63 (.aload_n 0) 64, r0 64 (.dup) 65, rX 65 (.getfield 180) 68 9 22 1222, rX 68 (.iconst 1) 69 1 0 0, r0 69 (.iload_n 1) 70, r0 70 (.ishl) 71, r0 71 (.ior) 72,
  rX 72 (.putfield 180) 75 9 22 1222, r0 75 (.aload_n 0) 76, rX 76 (.getfield 32) 79 9 28 1228, rX 79 (.bipush 31) 81 31 0 0, r0 81 (.iload_n 1) 82, r0 82 (.iadd) 83, r0 83 (.iload_n 2) 84, rX 84 (.ifCond .eq 7) 87 91 0 0,
  rX 87 (.iconst 1) 88 1 0 0, rX 88 (.goto 4) 91 92 0 0, rX 91 (.iconst 2) 92 2 0 0, r0 92 (.iastore) 93, r0 93 (.aload_n 0) 94, r0 94 (.dup) 95, rX 95 (.getfield 168) 98 9 18 1218, rX 98 (.iconst 1) 99 1 0 0,
  r0 99 (.iadd) 100, rX 100 (.putfield 168) 103 9 18 1218, r0 103 (.return_) 104]
def T_r_readNoiseOf : List Row := [r0 0 (.aload_n 0) 1, r0 1 (.aload_n 0) 2, rX 2 (.getfield 171) 5 9 19 1219, rX 5 (.bipush 8) 7 8 0 0, rX 7 (.if_icmp .ne 7) 10 14 0 0, rX 10 (.iconst 1) 11 1 0 0, rX 11 (.goto 4) 14 15 0 0, r0 14 (.iconst 0) 15,
  rX 15 (.invokevirtual 245) 18 170 0 1451, r0 18 (.aload_n 0) 19, r0 19 (.aload_n 0) 20, rX 20 (.getfield 183) 23 9 23 1223, rX 23 (.invokevirtual 249) 26 167 0 1455, r0 26 (.istore_n 1) 27, r0 27 (.aload_n 0) 28, rV 28 (.ldc_w 256) 31 13 27 1474 1,
  rX 31 (.invokevirtual 144) 34 163 0 1411, r0 34 (.istore_n 2) 35, r0 35 (.iload_n 2) 36, rX 36 (.ifCond .ne 18) 39 54 0 0, r0 39 (.aload_n 0) 40, rV 40 (.ldc_w 258) 43 14 28 1475 1, rX 43 (.invokevirtual 144) 46 163 0 1411, rX 46 (.ifCond .ne 8) 49 54 0 0,
  r0 49 (.aload_n 0) 50, rX 50 (.iconst 1) 51 1 0 0, rX 51 (.invokevirtual 148) 54 162 0 1421, r0 54 (.aload_n 0) 55, rX 55 (.invokevirtual 151) 58 158 0 1383, r0 58 (.aload_n 0) 59, rX 59 (.iconst 1) 60 1 0 0, rX 60 (.bipush 99) 62 99 0 0,
  rX 62 (.invokevirtual 221) 65 166 0 1427, r0 65 (.istore_n 3) 66, r0 66 (.aload_n 0) 67, rX 67 (.getfield 99) 70 9 38 1238, rX 70 (.ifCond .le 4) 73 74 0 0, r0 73 (.return_) 74, r0 74 (.aload_n 0) 75, r0 75 (.dup) 76,
  rX 76 (.getfield 183) 79 9 23 1223, rX 79 (.iconst 1) 80 1 0 0, r0 80 (.iload_n 1) 81, r0 81 (.ishl) 82, r0 82 (.ior) 83, rX 83 (.putfield 183) 86 9 23 1223, r0 86 (.aload_n 0) 87, rX 87 (.getfield 23) 90 9 24 1224,
  r0 90 (.iload_n 1) 91, r0 91 (.iload_n 2) 92, rX 92 (.ifCond .eq 7) 95 99 0 0, r0 95 (.iload_n 3) 96, rX 96 (.goto 5) 99 101 0 0, r0 99 (.iload_n 3) 100, r0 100 (.ineg) 101, r0 101 (.iastore) 102,
  r0 102 (.aload_n 0) 103, r0 103 (.dup) 104, rX 104 (.getfield 171) 107 9 19 1219, rX 107 (.iconst 1) 108 1 0 0, r0 108 (.iadd) 109, rX 109 (.putfield 171) 112 9 19 1219, r0 112 (.return_) 113]
def T_r_readLost : List Row := [r0 0 (.aload_n 0) 1, r0 1 (.aload_n 0) 2, rX 2 (.getfield 174) 5 9 20 1220, rX 5 (.iconst 3) 6 3 0 0, rX 6 (.if_icmp .ne 7) 9 13 0 0, rX 9 (.iconst 1) 10 1 0 0, rX 10 (.goto 4) 13 14 0 0, r0 13 (.iconst 0) 14,
  rX 14 (.invokevirtual 245) 17 170 0 1451, r0 17 (.aload_n 0) 18, r0 18 (.aload_n 0) 19, rX 19 (.getfield 32) 22 9 28 1228, rX 22 (.bipush 62) 24 62 0 0, r0 24 (.iaload) 25, rX 25 (.invokevirtual 249) 28 167 0 1455, r0 28 (.istore_n 1) 29,
  r0 29 (.aload_n 0) 30, rX 30 (.getfield 99) 33 9 38 1238, rX 33 (.ifCond .le 4) 36 37 0 0, r0 36 (.return_) 37, r0 37 (.aload_n 0) 38, rX 38 (.getfield 32) 41 9 28 1228, rX 41 (.bipush 62) 43 62 0 0, r0 43 (.dup2) 44,
  r0 44 (.iaload) 45, rX 45 (.iconst 1) 46 1 0 0, r0 46 (.iload_n 1) 47, r0 47 (.ishl) 48, r0 48 (.ior) 49, r0 49 (.iastore) 50, r0 50 (.aload_n 0) 51, r0 51 (.dup) 52,
  rX 52 (.getfield 174) 55 9 20 1220, rX 55 (.iconst 1) 56 1 0 0, r0 56 (.iadd) 57, rX 57 (.putfield 174) 60 9 20 1220, r0 60 (.return_) 61]
def T_r_readMaskOf : List Row := [r0 0 (.aload_n 0) 1, r0 1 (.aload_n 0) 2, rX 2 (.getfield 165) 5 9 17 1217, rX 5 (.bipush 12) 7 12 0 0, rX 7 (.if_icmp .ne 7) 10 14 0 0, rX 10 (.iconst 1) 11 1 0 0, rX 11 (.goto 4) 14 15 0 0, r0 14 (.iconst 0) 15,
  rX 15 (.invokevirtual 245) 18 170 0 1451, r0 18 (.iconst 0) 19, r0 19 (.istore_n 1) 20, rX 20 (.iconst 1) 21 1 0 0, r0 21 (.istore_n 2) 22, rH 22 (.iload_n 2) 23 0 0 0 0, rX 23 (.ifCond .eq 30) 26 53 0 0, r0 26 (.iload_n 1) 27,
  rX 27 (.iconst 1) 28 1 0 0, r0 28 (.aload_n 0) 29, r0 29 (.iload_n 1) 30, rX 30 (.invokevirtual 249) 33 167 0 1455, r0 33 (.ishl) 34, r0 34 (.ior) 35, r0 35 (.istore_n 1) 36, r0 36 (.aload_n 0) 37,
  rX 37 (.getfield 111) 40 9 35 1235, rX 40 (.iconst 3) 41 3 0 0, rX 41 (.if_icmp .ne 7) 44 48 0 0, rX 44 (.iconst 1) 45 1 0 0, rX 45 (.goto 4) 48 49 0 0, r0 48 (.iconst 0) 49, r0 49 (.istore_n 2) 50, rX 50 (.goto (-28)) 53 22 0 0,
  r0 53 (.aload_n 0) 54, rX 54 (.getfield 99) 57 9 38 1238, rX 57 (.ifCond .le 4) 60 61 0 0, r0 60 (.return_) 61, r0 61 (.aload_n 0) 62, rX 62 (.getfield 26) 65 9 25 1225, r0 65 (.aload_n 0) 66, rX 66 (.getfield 165) 69 9 17 1217,
  r0 69 (.iload_n 1) 70, r0 70 (.iastore) 71, r0 71 (.aload_n 0) 72, r0 72 (.dup) 73, rX 73 (.getfield 165) 76 9 17 1217, rX 76 (.iconst 1) 77 1 0 0, r0 77 (.iadd) 78, rX 78 (.putfield 165) 81 9 17 1217,
  r0 81 (.return_) 82]
def T_r_feed : List Row := [r0 0 (.aload_n 0) 1, r0 1 (.iconst 0) 2, rX 2 (.putfield 68) 5 9 0 1200, r0 5 (.aload_n 0) 6, rX 6 (.getfield 260) 9 9 32 1232, rX 9 (.bipush 20) 11 20 0 0, r0 11 (.iadd) 12, rX 12 (.sipush 800) 15 800 0 0,
  rX 15 (.if_icmp .le 5) 18 20 0 0, rX 18 (.iconst (-1)) 19 1 1 0, r0 19 (.ireturn) 20, r0 20 (.iconst 0) 21, r0 21 (.istore 6) 23, rH 23 (.iload 6) 25 0 0 0 0, rX 25 (.bipush 20) 27 20 0 0, rX 27 (.if_icmp .ge 90) 30 117 0 0,
  r0 30 (.iload 6) 32, rX 32 (.iconst 4) 33 4 0 0, rX 33 (.if_icmp .ge 7) 36 40 0 0, r0 36 (.iload_n 1) 37, rX 37 (.goto 39) 40 76 0 0, r0 40 (.iload 6) 42, rX 42 (.bipush 8) 44 8 0 0, rX 44 (.if_icmp .ge 7) 47 51 0 0,
  r0 47 (.iload_n 2) 48, rX 48 (.goto 28) 51 76 0 0, r0 51 (.iload 6) 53, rX 53 (.bipush 12) 55 12 0 0, rX 55 (.if_icmp .ge 7) 58 62 0 0, r0 58 (.iload_n 3) 59, rX 59 (.goto 17) 62 76 0 0, r0 62 (.iload 6) 64,
  rX 64 (.bipush 16) 66 16 0 0, rX 66 (.if_icmp .ge 8) 69 74 0 0, r0 69 (.iload 4) 71, rX 71 (.goto 5) 74 76 0 0, r0 74 (.iload 5) 76, r0 76 (.istore 7) 78, r0 78 (.aload_n 0) 79, rX 79 (.getfield 38) 82 9 31 1231,
  r0 82 (.aload_n 0) 83, rX 83 (.getfield 260) 86 9 32 1232, r0 86 (.iload 7) 88, rX 88 (.bipush 24) 90 24 0 0, rX 90 (.bipush 8) 92 8 0 0, r0 92 (.iload 6) 94, rX 94 (.iconst 4) 95 4 0 0, r0 95 (.irem) 96,
  r0 96 (.imul) 97, r0 97 (.isub) 98, r0 98 (.ishr) 99, r0 99 (.i2b) 100, r0 100 (.bastore) 101, r0 101 (.aload_n 0) 102, r0 102 (.dup) 103, rX 103 (.getfield 260) 106 9 32 1232,
  rX 106 (.iconst 1) 107 1 0 0, r0 107 (.iadd) 108, rX 108 (.putfield 260) 111 9 32 1232, rX 111 (.iinc 6 1) 114 1 0 0, rX 114 (.goto (-91)) 117 23 0 0, r0 117 (.aload_n 0) 118, rX 118 (.getfield 260) 121 9 32 1232, r0 121 (.ireturn) 122]
def T_r_bench : List Row := [r0 0 (.aload_n 0) 1, r0 1 (.iconst 0) 2, rX 2 (.putfield 68) 5 9 0 1200, r0 5 (.iload_n 1) 6, rX 6 (.ifCond .lt 11) 9 17 0 0, r0 9 (.iload_n 1) 10, r0 10 (.aload_n 0) 11, rX 11 (.getfield 260) 14 9 32 1232,
  rX 14 (.if_icmp .le 9) 17 23 0 0, r0 17 (.aload_n 0) 18, rX 18 (.iconst 2) 19 2 0 0, rX 19 (.invokevirtual 74) 22 148 0 1375, r0 22 (.ireturn) 23, r0 23 (.aload_n 0) 24, r0 24 (.iload_n 1) 25, rX 25 (.putfield 96) 28 9 33 1233,
  r0 28 (.aload_n 0) 29, r0 29 (.iconst 0) 30, rX 30 (.putfield 260) 33 9 32 1232, r0 33 (.aload_n 0) 34, r0 34 (.iconst 0) 35, rX 35 (.putfield 102) 38 9 34 1234, r0 38 (.aload_n 0) 39, r0 39 (.iconst 0) 40,
  rX 40 (.putfield 99) 43 9 38 1238, r0 43 (.aload_n 0) 44, rX 44 (.invokevirtual 263) 47 168 0 1379, r0 47 (.aload_n 0) 48, rX 48 (.getfield 99) 51 9 38 1238, rX 51 (.ifCond .le 18) 54 69 0 0, r0 54 (.aload_n 0) 55, rX 55 (.iconst 4) 56 4 0 0,
  rX 56 (.putfield 71) 59 9 1 1201, r0 59 (.aload_n 0) 60, r0 60 (.aload_n 0) 61, rX 61 (.getfield 108) 64 9 36 1236, rX 64 (.putfield 9) 67 9 2 1202, rX 67 (.iconst (-1)) 68 1 1 0, r0 68 (.ireturn) 69, r0 69 (.aload_n 0) 70,
  rX 70 (.invokevirtual 266) 73 180 0 1486, r0 73 (.aload_n 0) 74, r0 74 (.aload_n 0) 75, rX 75 (.getfield 269) 78 9 5 1205, rX 78 (.invokevirtual 93) 81 150 0 1505, r0 81 (.ireturn) 82]
def T_r_takesOver : List Row := [r0 0 (.aload_n 0) 1, rX 1 (.iconst 1) 2 1 0 0, rX 2 (.putfield 272) 5 9 26 1226, r0 5 (.aload_n 0) 6, r0 6 (.aload_n 0) 7, rX 7 (.getfield 158) 10 9 13 1213, rX 10 (.putfield 269) 13 9 5 1205, r0 13 (.aload_n 0) 14,
  r0 14 (.aload_n 0) 15, rX 15 (.getfield 236) 18 9 14 1214, rX 18 (.putfield 276) 21 9 6 1206, r0 21 (.aload_n 0) 22, r0 22 (.aload_n 0) 23, rX 23 (.getfield 239) 26 9 15 1215, rX 26 (.putfield 279) 29 9 7 1207, r0 29 (.aload_n 0) 30,
  r0 30 (.aload_n 0) 31, rX 31 (.getfield 242) 34 9 16 1216, rX 34 (.putfield 281) 37 9 8 1208, r0 37 (.aload_n 0) 38, r0 38 (.aload_n 0) 39, rX 39 (.getfield 165) 42 9 17 1217, rX 42 (.putfield 283) 45 9 9 1209, r0 45 (.iconst 0) 46,
  r0 46 (.istore_n 1) 47, rH 47 (.iload_n 1) 48 0 0 0 0, rX 48 (.bipush 63) 50 63 0 0, rX 50 (.if_icmp .ge 21) 53 71 0 0, r0 53 (.aload_n 0) 54, rX 54 (.getfield 29) 57 9 27 1227, r0 57 (.iload_n 1) 58, r0 58 (.aload_n 0) 59,
  rX 59 (.getfield 32) 62 9 28 1228, r0 62 (.iload_n 1) 63, r0 63 (.iaload) 64, r0 64 (.iastore) 65, rX 65 (.iinc 1 1) 68 1 0 0, rX 68 (.goto (-21)) 71 47 0 0, r0 71 (.iconst 0) 72, r0 72 (.istore_n 1) 73,
  rH 73 (.iload_n 1) 74 0 0 0 0, rX 74 (.bipush 31) 76 31 0 0, rX 76 (.if_icmp .ge 21) 79 97 0 0, r0 79 (.aload_n 0) 80, rX 80 (.getfield 17) 83 9 11 1211, r0 83 (.iload_n 1) 84, r0 84 (.aload_n 0) 85, rX 85 (.getfield 23) 88 9 24 1224,
  r0 88 (.iload_n 1) 89, r0 89 (.iaload) 90, r0 90 (.iastore) 91, rX 91 (.iinc 1 1) 94 1 0 0, rX 94 (.goto (-21)) 97 73 0 0, r0 97 (.iconst 0) 98, r0 98 (.istore_n 1) 99, rH 99 (.iload_n 1) 100 0 0 0 0,
  r0 100 (.aload_n 0) 101, rX 101 (.getfield 283) 104 9 9 1209, rX 104 (.if_icmp .ge 21) 107 125 0 0, r0 107 (.aload_n 0) 108, rX 108 (.getfield 20) 111 9 12 1212, r0 111 (.iload_n 1) 112, r0 112 (.aload_n 0) 113, rX 113 (.getfield 26) 116 9 25 1225,
  r0 116 (.iload_n 1) 117, r0 117 (.iaload) 118, r0 118 (.iastore) 119, rX 119 (.iinc 1 1) 122 1 0 0, rX 122 (.goto (-23)) 125 99 0 0, r0 125 (.aload_n 0) 126, rX 126 (.getfield 276) 129 9 6 1206, rX 129 (.ifCond .ne 10) 132 139 0 0,
  r0 132 (.aload_n 0) 133, rX 133 (.invokevirtual 286) 136 181 0 1490, rX 136 (.goto 7) 139 143 0 0, r0 139 (.aload_n 0) 140, rX 140 (.invokevirtual 289) 143 182 0 1497, r0 143 (.aload_n 0) 144, r0 144 (.iconst 0) 145, rX 145 (.putfield 292) 148 9 44 1244,
  r0 148 (.aload_n 0) 149, r0 149 (.iconst 0) 150, rX 150 (.putfield 295) 153 9 45 1245, r0 153 (.aload_n 0) 154, r0 154 (.iconst 0) 155, rX 155 (.putfield 298) 158 9 30 1230, r0 158 (.aload_n 0) 159, rX 159 (.invokevirtual 301) 162 198 0 1501,
  r0 162 (.return_) 163]
def T_r_laysDoubled : List Row := [r0 0 (.iconst 0) 1, r0 1 (.istore_n 1) 2, rH 2 (.iconst 1) 3 1 0 0 0, r0 3 (.iload_n 1) 4, r0 4 (.ishl) 5, r0 5 (.aload_n 0) 6, rX 6 (.getfield 269) 9 9 5 1205, rX 9 (.if_icmp .gt 9) 12 18 0 0,
  rX 12 (.iinc 1 1) 15 1 0 0, rX 15 (.goto (-13)) 18 2 0 0, r0 18 (.iconst 0) 19, r0 19 (.istore_n 2) 20, rH 20 (.iload_n 2) 21 0 0 0 0, r0 21 (.aload_n 0) 22, rX 22 (.getfield 269) 25 9 5 1205, rX 25 (.if_icmp .ge 57) 28 82 0 0,
  r0 28 (.aload_n 0) 29, rX 29 (.getfield 13) 32 9 10 1210, r0 32 (.iload_n 2) 33, r0 33 (.iconst 0) 34, r0 34 (.iastore) 35, r0 35 (.iconst 0) 36, r0 36 (.istore_n 3) 37, rH 37 (.iload_n 3) 38 0 0 0 0,
  r0 38 (.aload_n 0) 39, rX 39 (.getfield 269) 42 9 5 1205, rX 42 (.if_icmp .ge 34) 45 76 0 0, r0 45 (.iload_n 1) 46, r0 46 (.iload_n 2) 47, rX 47 (.iconst 1) 48 1 0 0, r0 48 (.iadd) 49, r0 49 (.iload_n 3) 50,
  rX 50 (.iconst 1) 51 1 0 0, r0 51 (.iadd) 52, rX 52 (.invokestatic 304) 55 263 1 1494, rX 55 (.ifCond .ge 15) 58 70 0 0, r0 58 (.aload_n 0) 59, rX 59 (.getfield 13) 62 9 10 1210, r0 62 (.iload_n 2) 63, r0 63 (.dup2) 64,
  r0 64 (.iaload) 65, rX 65 (.iconst 1) 66 1 0 0, r0 66 (.iload_n 3) 67, r0 67 (.ishl) 68, r0 68 (.ior) 69, r0 69 (.iastore) 70, rX 70 (.iinc 3 1) 73 1 0 0, rX 73 (.goto (-36)) 76 37 0 0,
  rX 76 (.iinc 2 1) 79 1 0 0, rX 79 (.goto (-59)) 82 20 0 0, r0 82 (.return_) 83]
def T_r_laysSquares : List Row := [rX 0 (.iconst 1) 1 1 0 0, r0 1 (.istore_n 1) 2, rX 2 (.iconst 1) 3 1 0 0, r0 3 (.istore_n 2) 4, rH 4 (.iload_n 2) 5 0 0 0 0, r0 5 (.aload_n 0) 6, rX 6 (.getfield 269) 9 9 5 1205, rX 9 (.if_icmp .ge 22) 12 31 0 0,
  r0 12 (.iload_n 1) 13, rX 13 (.iconst 1) 14 1 0 0, r0 14 (.iload_n 2) 15, r0 15 (.iload_n 2) 16, r0 16 (.imul) 17, r0 17 (.aload_n 0) 18, rX 18 (.getfield 269) 21 9 5 1205, r0 21 (.irem) 22,
  r0 22 (.ishl) 23, r0 23 (.ior) 24, r0 24 (.istore_n 1) 25, rX 25 (.iinc 2 1) 28 1 0 0, rX 28 (.goto (-24)) 31 4 0 0, r0 31 (.iconst 0) 32, r0 32 (.istore_n 2) 33, rH 33 (.iload_n 2) 34 0 0 0 0,
  r0 34 (.aload_n 0) 35, rX 35 (.getfield 269) 38 9 5 1205, rX 38 (.if_icmp .ge 33) 41 71 0 0, r0 41 (.aload_n 0) 42, rX 42 (.getfield 13) 45 9 10 1210, r0 45 (.iload_n 2) 46, r0 46 (.iload_n 1) 47, r0 47 (.iastore) 48,
  r0 48 (.iload_n 1) 49, rX 49 (.iconst 1) 50 1 0 0, r0 50 (.iand) 51, r0 51 (.istore_n 3) 52, r0 52 (.iload_n 1) 53, rX 53 (.iconst 1) 54 1 0 0, r0 54 (.ishr) 55, r0 55 (.iload_n 3) 56,
  r0 56 (.aload_n 0) 57, rX 57 (.getfield 269) 60 9 5 1205, rX 60 (.iconst 1) 61 1 0 0, r0 61 (.isub) 62, r0 62 (.ishl) 63, r0 63 (.ior) 64, r0 64 (.istore_n 1) 65, rX 65 (.iinc 2 1) 68 1 0 0,
  rX 68 (.goto (-35)) 71 33 0 0, r0 71 (.return_) 72]
def T_r_fault : List Row := [r0 0 (.aload_n 0) 1, r0 1 (.iconst 0) 2, rX 2 (.putfield 68) 5 9 0 1200, r0 5 (.aload_n 0) 6, rX 6 (.getfield 99) 9 9 38 1238, r0 9 (.ireturn) 10]
def T_r_where : List Row := [r0 0 (.aload_n 0) 1, r0 1 (.iconst 0) 2, rX 2 (.putfield 68) 5 9 0 1200, r0 5 (.aload_n 0) 6, rX 6 (.getfield 9) 9 9 2 1202, r0 9 (.ireturn) 10]
def T_r_monitor : List Row := [r0 0 (.iconst 0) 1, r0 1 (.istore_n 1) 2, r0 2 (.iconst 0) 3, r0 3 (.istore_n 2) 4, rH 4 (.iload_n 2) 5 0 0 0 0, r0 5 (.aload_n 0) 6, rX 6 (.getfield 269) 9 9 5 1205, rX 9 (.if_icmp .ge 18) 12 27 0 0,
  r0 12 (.iload_n 1) 13, r0 13 (.aload_n 0) 14, rX 14 (.getfield 29) 17 9 27 1227, r0 17 (.iload_n 2) 18, r0 18 (.iaload) 19, r0 19 (.iadd) 20, r0 20 (.istore_n 1) 21, rX 21 (.iinc 2 1) 24 1 0 0,
  rX 24 (.goto (-20)) 27 4 0 0, r0 27 (.iload_n 1) 28, r0 28 (.ireturn) 29]
def T_r_about : List Row := [r0 0 (.aload_n 0) 1, r0 1 (.iconst 0) 2, rX 2 (.putfield 68) 5 9 0 1200, r0 5 (.aload_n 0) 6, rX 6 (.getfield 272) 9 9 26 1226, rX 9 (.ifCond .ne 9) 12 18 0 0, r0 12 (.aload_n 0) 13, rX 13 (.iconst 1) 14 1 0 0,
  rX 14 (.invokevirtual 74) 17 148 0 1375, r0 17 (.ireturn) 18, r0 18 (.iload_n 1) 19, r0 19 (.tableswitch 132 0 8 #[49, 58, 67, 76, 85, 94, 108, 117, 123]) 68, r0 68 (.aload_n 0) 69, r0 69 (.aload_n 0) 70, rX 70 (.getfield 269) 73 9 5 1205, rX 73 (.invokevirtual 93) 76 150 0 1505,
  r0 76 (.ireturn) 77, r0 77 (.aload_n 0) 78, r0 78 (.aload_n 0) 79, rX 79 (.getfield 276) 82 9 6 1206, rX 82 (.invokevirtual 93) 85 150 0 1505, r0 85 (.ireturn) 86, r0 86 (.aload_n 0) 87, r0 87 (.aload_n 0) 88,
  rX 88 (.getfield 279) 91 9 7 1207, rX 91 (.invokevirtual 93) 94 150 0 1505, r0 94 (.ireturn) 95, r0 95 (.aload_n 0) 96, r0 96 (.aload_n 0) 97, rX 97 (.getfield 281) 100 9 8 1208, rX 100 (.invokevirtual 93) 103 150 0 1505, r0 103 (.ireturn) 104,
  r0 104 (.aload_n 0) 105, r0 105 (.aload_n 0) 106, rX 106 (.invokevirtual 308) 109 185 0 1521, rX 109 (.invokevirtual 93) 112 150 0 1505, r0 112 (.ireturn) 113, r0 113 (.aload_n 0) 114, r0 114 (.aload_n 0) 115, rX 115 (.getfield 13) 118 9 10 1210,
  r0 118 (.iconst 0) 119, r0 119 (.iaload) 120, rX 120 (.invokestatic 311) 123 153 1 1525, rX 123 (.invokevirtual 93) 126 150 0 1505, r0 126 (.ireturn) 127, r0 127 (.aload_n 0) 128, r0 128 (.aload_n 0) 129, rX 129 (.getfield 292) 132 9 44 1244,
  rX 132 (.invokevirtual 93) 135 150 0 1505, r0 135 (.ireturn) 136, r0 136 (.aload_n 0) 137, r0 137 (.iconst 0) 138, rX 138 (.invokevirtual 93) 141 150 0 1505, r0 141 (.ireturn) 142, r0 142 (.aload_n 0) 143, r0 143 (.aload_n 0) 144,
  rX 144 (.getfield 295) 147 9 45 1245, rX 147 (.invokevirtual 93) 150 150 0 1505, r0 150 (.ireturn) 151, r0 151 (.aload_n 0) 152, rX 152 (.iconst 1) 153 1 0 0, rX 153 (.invokevirtual 74) 156 148 0 1375, r0 156 (.ireturn) 157]
def T_r_isOne : List Row := [r0 0 (.aload_n 0) 1, rX 1 (.getfield 272) 4 9 26 1226, rX 4 (.ifCond .eq 19) 7 23 0 0, r0 7 (.iload_n 1) 8, rX 8 (.ifCond .lt 15) 11 23 0 0, r0 11 (.iload_n 1) 12, r0 12 (.aload_n 0) 13, rX 13 (.getfield 269) 16 9 5 1205,
  rX 16 (.if_icmp .ge 7) 19 23 0 0, rX 19 (.iconst 1) 20 1 0 0, rX 20 (.goto 4) 23 24 0 0, r0 23 (.iconst 0) 24, r0 24 (.ireturn) 25]
def T_r_isSet : List Row := [r0 0 (.iload_n 1) 1, rX 1 (.ifCond .lt 26) 4 27 0 0, r0 4 (.aload_n 0) 5, rX 5 (.getfield 269) 8 9 5 1205, rX 8 (.bipush 31) 10 31 0 0, rX 10 (.if_icmp .eq 13) 13 23 0 0, r0 13 (.iload_n 1) 14, rX 14 (.iconst 1) 15 1 0 0,
  r0 15 (.aload_n 0) 16, rX 16 (.getfield 269) 19 9 5 1205, r0 19 (.ishl) 20, rX 20 (.if_icmp .ge 7) 23 27 0 0, rX 23 (.iconst 1) 24 1 0 0, rX 24 (.goto 4) 27 28 0 0, r0 27 (.iconst 0) 28, r0 28 (.ireturn) 29]
def T_r_plate : List Row := [r0 0 (.aload_n 0) 1, r0 1 (.iconst 0) 2, rX 2 (.putfield 68) 5 9 0 1200, r0 5 (.aload_n 0) 6, r0 6 (.iload_n 1) 7, rX 7 (.invokevirtual 314) 10 187 0 1532, rX 10 (.ifCond .eq 16) 13 26 0 0, r0 13 (.aload_n 0) 14,
  r0 14 (.aload_n 0) 15, rX 15 (.getfield 13) 18 9 10 1210, r0 18 (.iload_n 1) 19, r0 19 (.iaload) 20, rX 20 (.invokevirtual 93) 23 150 0 1505, rX 23 (.goto 8) 26 31 0 0, r0 26 (.aload_n 0) 27, rX 27 (.iconst 1) 28 1 0 0,
  rX 28 (.invokevirtual 74) 31 148 0 1375, r0 31 (.ireturn) 32]
def T_r_common : List Row := [r0 0 (.aload_n 0) 1, r0 1 (.iconst 0) 2, rX 2 (.putfield 68) 5 9 0 1200, r0 5 (.aload_n 0) 6, r0 6 (.iload_n 1) 7, rX 7 (.invokevirtual 314) 10 187 0 1532, rX 10 (.ifCond .eq 34) 13 44 0 0, r0 13 (.aload_n 0) 14,
  r0 14 (.iload_n 2) 15, rX 15 (.invokevirtual 314) 18 187 0 1532, rX 18 (.ifCond .eq 26) 21 44 0 0, r0 21 (.aload_n 0) 22, r0 22 (.aload_n 0) 23, rX 23 (.getfield 13) 26 9 10 1210, r0 26 (.iload_n 1) 27, r0 27 (.iaload) 28,
  r0 28 (.aload_n 0) 29, rX 29 (.getfield 13) 32 9 10 1210, r0 32 (.iload_n 2) 33, r0 33 (.iaload) 34, r0 34 (.iand) 35, rX 35 (.invokestatic 311) 38 153 1 1525, rX 38 (.invokevirtual 93) 41 150 0 1505, rX 41 (.goto 8) 44 49 0 0,
  r0 44 (.aload_n 0) 45, rX 45 (.iconst 1) 46 1 0 0, rX 46 (.invokevirtual 74) 49 148 0 1375, r0 49 (.ireturn) 50]
def T_r_which : List Row := [r0 0 (.aload_n 0) 1, r0 1 (.iconst 0) 2, rX 2 (.putfield 68) 5 9 0 1200, r0 5 (.aload_n 0) 6, rX 6 (.getfield 272) 9 9 26 1226, rX 9 (.ifCond .ne 9) 12 18 0 0, r0 12 (.aload_n 0) 13, rX 13 (.iconst 1) 14 1 0 0,
  rX 14 (.invokevirtual 74) 17 148 0 1375, r0 17 (.ireturn) 18, r0 18 (.aload_n 0) 19, r0 19 (.iload_n 1) 20, rX 20 (.invokevirtual 318) 23 188 0 1544, rX 23 (.ifCond .ne 9) 26 32 0 0, r0 26 (.aload_n 0) 27, rX 27 (.iconst 2) 28 2 0 0,
  rX 28 (.invokevirtual 74) 31 148 0 1375, r0 31 (.ireturn) 32, r0 32 (.iconst 0) 33, r0 33 (.istore_n 2) 34, rH 34 (.iload_n 2) 35 0 0 0 0, r0 35 (.aload_n 0) 36, rX 36 (.getfield 269) 39 9 5 1205, rX 39 (.if_icmp .ge 25) 42 64 0 0,
  r0 42 (.aload_n 0) 43, rX 43 (.getfield 13) 46 9 10 1210, r0 46 (.iload_n 2) 47, r0 47 (.iaload) 48, r0 48 (.iload_n 1) 49, rX 49 (.if_icmp .ne 9) 52 58 0 0, r0 52 (.aload_n 0) 53, r0 53 (.iload_n 2) 54,
  rX 54 (.invokevirtual 93) 57 150 0 1505, r0 57 (.ireturn) 58, rX 58 (.iinc 2 1) 61 1 0 0, rX 61 (.goto (-27)) 64 34 0 0, r0 64 (.aload_n 0) 65, rX 65 (.bipush (-2)) 67 2 1 0, rX 67 (.invokevirtual 93) 70 150 0 1505, r0 70 (.ireturn) 71]
def T_r_apart : List Row := [r0 0 (.aload_n 0) 1, r0 1 (.iconst 0) 2, rX 2 (.putfield 68) 5 9 0 1200, r0 5 (.aload_n 0) 6, r0 6 (.iload_n 1) 7, rX 7 (.invokevirtual 314) 10 187 0 1532, rX 10 (.ifCond .ne 9) 13 19 0 0, r0 13 (.aload_n 0) 14,
  rX 14 (.iconst 1) 15 1 0 0, rX 15 (.invokevirtual 74) 18 148 0 1375, r0 18 (.ireturn) 19, r0 19 (.aload_n 0) 20, rX 20 (.getfield 269) 23 9 5 1205, rX 23 (.iconst 1) 24 1 0 0, r0 24 (.iadd) 25, r0 25 (.istore_n 2) 26,
  r0 26 (.iconst 0) 27, r0 27 (.istore_n 3) 28, rH 28 (.iload_n 3) 29 0 0 0 0, r0 29 (.aload_n 0) 30, rX 30 (.getfield 269) 33 9 5 1205, rX 33 (.if_icmp .ge 41) 36 74 0 0, r0 36 (.aload_n 0) 37, rX 37 (.getfield 13) 40 9 10 1210,
  r0 40 (.iload_n 1) 41, r0 41 (.iaload) 42, r0 42 (.aload_n 0) 43, rX 43 (.getfield 13) 46 9 10 1210, r0 46 (.iload_n 3) 47, r0 47 (.iaload) 48, r0 48 (.ixor) 49, rX 49 (.invokestatic 311) 52 153 1 1525,
  r0 52 (.istore 4) 54, r0 54 (.iload_n 3) 55, r0 55 (.iload_n 1) 56, rX 56 (.if_icmp .eq 12) 59 68 0 0, r0 59 (.iload 4) 61, r0 61 (.iload_n 2) 62, rX 62 (.if_icmp .ge 6) 65 68 0 0, r0 65 (.iload 4) 67,
  r0 67 (.istore_n 2) 68, rX 68 (.iinc 3 1) 71 1 0 0, rX 71 (.goto (-43)) 74 28 0 0, r0 74 (.aload_n 0) 75, r0 75 (.iload_n 2) 76, rX 76 (.invokevirtual 93) 79 150 0 1505, r0 79 (.ireturn) 80]
def T_r_odd : List Row := [r0 0 (.aload_n 0) 1, r0 1 (.iconst 0) 2, rX 2 (.putfield 68) 5 9 0 1200, r0 5 (.aload_n 0) 6, rX 6 (.getfield 272) 9 9 26 1226, rX 9 (.ifCond .ne 9) 12 18 0 0, r0 12 (.aload_n 0) 13, rX 13 (.iconst 1) 14 1 0 0,
  rX 14 (.invokevirtual 74) 17 148 0 1375, r0 17 (.ireturn) 18, r0 18 (.aload_n 0) 19, r0 19 (.iload_n 1) 20, rX 20 (.invokevirtual 318) 23 188 0 1544, rX 23 (.ifCond .ne 9) 26 32 0 0, r0 26 (.aload_n 0) 27, rX 27 (.iconst 2) 28 2 0 0,
  rX 28 (.invokevirtual 74) 31 148 0 1375, r0 31 (.ireturn) 32, r0 32 (.iconst 0) 33, r0 33 (.istore_n 2) 34, r0 34 (.iconst 0) 35, r0 35 (.istore_n 3) 36, rH 36 (.iload_n 3) 37 0 0 0 0, r0 37 (.aload_n 0) 38,
  rX 38 (.getfield 269) 41 9 5 1205, rX 41 (.if_icmp .ge 26) 44 67 0 0, r0 44 (.iload_n 1) 45, r0 45 (.iload_n 3) 46, rX 46 (.invokestatic 161) 49 152 1 1459, rX 49 (.ifCond .eq 12) 52 61 0 0, r0 52 (.iload_n 2) 53, r0 53 (.aload_n 0) 54,
  rX 54 (.getfield 13) 57 9 10 1210, r0 57 (.iload_n 3) 58, r0 58 (.iaload) 59, r0 59 (.ixor) 60, r0 60 (.istore_n 2) 61, rX 61 (.iinc 3 1) 64 1 0 0, rX 64 (.goto (-28)) 67 36 0 0, r0 67 (.aload_n 0) 68,
  r0 68 (.iload_n 2) 69, rX 69 (.invokevirtual 93) 72 150 0 1505, r0 72 (.ireturn) 73]
def T_r_light : List Row := [r0 0 (.aload_n 0) 1, r0 1 (.iconst 0) 2, rX 2 (.putfield 68) 5 9 0 1200, r0 5 (.aload_n 0) 6, r0 6 (.iload_n 1) 7, rX 7 (.invokevirtual 314) 10 187 0 1532, rX 10 (.ifCond .eq 16) 13 26 0 0, r0 13 (.aload_n 0) 14,
  r0 14 (.aload_n 0) 15, rX 15 (.getfield 29) 18 9 27 1227, r0 18 (.iload_n 1) 19, r0 19 (.iaload) 20, rX 20 (.invokevirtual 93) 23 150 0 1505, rX 23 (.goto 8) 26 31 0 0, r0 26 (.aload_n 0) 27, rX 27 (.iconst 1) 28 1 0 0,
  rX 28 (.invokevirtual 74) 31 148 0 1375, r0 31 (.ireturn) 32]
def T_r_shutter : List Row := [r0 0 (.aload_n 0) 1, r0 1 (.iconst 0) 2, rX 2 (.putfield 68) 5 9 0 1200, r0 5 (.aload_n 0) 6, r0 6 (.iload_n 1) 7, rX 7 (.invokevirtual 314) 10 187 0 1532, rX 10 (.ifCond .eq 19) 13 29 0 0, r0 13 (.aload_n 0) 14,
  r0 14 (.aload_n 0) 15, rX 15 (.getfield 29) 18 9 27 1227, rX 18 (.bipush 31) 20 31 0 0, r0 20 (.iload_n 1) 21, r0 21 (.iadd) 22, r0 22 (.iaload) 23, rX 23 (.invokevirtual 93) 26 150 0 1505, rX 26 (.goto 8) 29 34 0 0,
  r0 29 (.aload_n 0) 30, rX 30 (.iconst 1) 31 1 0 0, rX 31 (.invokevirtual 74) 34 148 0 1375, r0 34 (.ireturn) 35]
def T_r_noise : List Row := [r0 0 (.aload_n 0) 1, r0 1 (.iconst 0) 2, rX 2 (.putfield 68) 5 9 0 1200, r0 5 (.aload_n 0) 6, r0 6 (.iload_n 1) 7, rX 7 (.invokevirtual 314) 10 187 0 1532, rX 10 (.ifCond .eq 14) 13 24 0 0, r0 13 (.aload_n 0) 14,
  r0 14 (.aload_n 0) 15, rX 15 (.getfield 17) 18 9 11 1211, r0 18 (.iload_n 1) 19, r0 19 (.iaload) 20, rX 20 (.invokevirtual 93) 23 150 0 1505, r0 23 (.ireturn) 24, r0 24 (.aload_n 0) 25, rX 25 (.iconst 1) 26 1 0 0,
  rX 26 (.invokevirtual 74) 29 148 0 1375, r0 29 (.pop) 30, rX 30 (.ldc_w 323) 33 2147483648 1 1568, r0 33 (.ireturn) 34]
def T_r_lost : List Row := [r0 0 (.aload_n 0) 1, r0 1 (.iconst 0) 2, rX 2 (.putfield 68) 5 9 0 1200, r0 5 (.aload_n 0) 6, r0 6 (.iload_n 1) 7, rX 7 (.invokevirtual 314) 10 187 0 1532, rX 10 (.ifCond .eq 29) 13 39 0 0, r0 13 (.aload_n 0) 14,
  r0 14 (.aload_n 0) 15, rX 15 (.getfield 29) 18 9 27 1227, rX 18 (.bipush 62) 20 62 0 0, r0 20 (.iaload) 21, r0 21 (.iload_n 1) 22, rX 22 (.invokestatic 161) 25 152 1 1459, rX 25 (.ifCond .eq 7) 28 32 0 0, rX 28 (.iconst 1) 29 1 0 0,
  rX 29 (.goto 4) 32 33 0 0, r0 32 (.iconst 0) 33, rX 33 (.invokevirtual 93) 36 150 0 1505, rX 36 (.goto 8) 39 44 0 0, r0 39 (.aload_n 0) 40, rX 40 (.iconst 1) 41 1 0 0, rX 41 (.invokevirtual 74) 44 148 0 1375, r0 44 (.ireturn) 45]
def T_r_ends : List Row := [r0 0 (.aload_n 0) 1, r0 1 (.iconst 0) 2, rX 2 (.putfield 324) 5 9 43 1243, r0 5 (.aload_n 0) 6, r0 6 (.iconst 0) 7, rX 7 (.putfield 327) 10 9 46 1246, r0 10 (.return_) 11]
def T_r_through : List Row := [r0 0 (.iconst 0) 1, r0 1 (.istore_n 2) 2, r0 2 (.iconst 0) 3, r0 3 (.istore_n 3) 4, rH 4 (.iload_n 3) 5 0 0 0 0, r0 5 (.aload_n 0) 6, rX 6 (.getfield 269) 9 9 5 1205, rX 9 (.if_icmp .ge 49) 12 58 0 0,
  r0 12 (.aload_n 0) 13, rX 13 (.getfield 29) 16 9 27 1227, rX 16 (.bipush 31) 18 31 0 0, r0 18 (.iload_n 3) 19, r0 19 (.iadd) 20, r0 20 (.iaload) 21, r0 21 (.istore 4) 23, r0 23 (.iload 4) 25,
  rX 25 (.iconst 1) 26 1 0 0, rX 26 (.if_icmp .eq 17) 29 43 0 0, r0 29 (.iload_n 1) 30, r0 30 (.iload_n 3) 31, rX 31 (.invokestatic 161) 34 152 1 1459, rX 34 (.ifCond .eq 18) 37 52 0 0, r0 37 (.iload 4) 39, rX 39 (.iconst 2) 40 2 0 0,
  rX 40 (.if_icmp .eq 12) 43 52 0 0, r0 43 (.iload_n 2) 44, r0 44 (.aload_n 0) 45, rX 45 (.getfield 29) 48 9 27 1227, r0 48 (.iload_n 3) 49, r0 49 (.iaload) 50, r0 50 (.iadd) 51, r0 51 (.istore_n 2) 52,
  rX 52 (.iinc 3 1) 55 1 0 0, rX 55 (.goto (-51)) 58 4 0 0, r0 58 (.iload_n 2) 59, r0 59 (.ireturn) 60]
def T_r_looks : List Row := [r0 0 (.aload_n 0) 1, r0 1 (.dup) 2, rX 2 (.getfield 292) 5 9 44 1244, rX 5 (.iconst 1) 6 1 0 0, r0 6 (.iadd) 7, rX 7 (.putfield 292) 10 9 44 1244, r0 10 (.aload_n 0) 11, rX 11 (.getfield 279) 14 9 7 1207,
  r0 14 (.aload_n 0) 15, r0 15 (.iload_n 1) 16, rX 16 (.invokevirtual 330) 19 199 0 1581, r0 19 (.iadd) 20, r0 20 (.istore_n 2) 21, r0 21 (.iload_n 2) 22, r0 22 (.aload_n 0) 23, rX 23 (.getfield 281) 26 9 8 1208,
  rX 26 (.if_icmp .gt 5) 29 31 0 0, r0 29 (.iload_n 2) 30, r0 30 (.ireturn) 31, r0 31 (.aload_n 0) 32, r0 32 (.dup) 33, rX 33 (.getfield 295) 36 9 45 1245, rX 36 (.iconst 1) 37 1 0 0, r0 37 (.iadd) 38,
  rX 38 (.putfield 295) 41 9 45 1245, rX 41 (.iconst (-1)) 42 1 1 0, r0 42 (.ireturn) 43]
def T_r_look : List Row := [r0 0 (.aload_n 0) 1, r0 1 (.iconst 0) 2, rX 2 (.putfield 68) 5 9 0 1200, r0 5 (.aload_n 0) 6, rX 6 (.getfield 272) 9 9 26 1226, rX 9 (.ifCond .ne 9) 12 18 0 0, r0 12 (.aload_n 0) 13, rX 13 (.iconst 1) 14 1 0 0,
  rX 14 (.invokevirtual 74) 17 148 0 1375, r0 17 (.ireturn) 18, r0 18 (.aload_n 0) 19, r0 19 (.iload_n 1) 20, rX 20 (.invokevirtual 318) 23 188 0 1544, rX 23 (.ifCond .ne 9) 26 32 0 0, r0 26 (.aload_n 0) 27, rX 27 (.iconst 2) 28 2 0 0,
  rX 28 (.invokevirtual 74) 31 148 0 1375, r0 31 (.ireturn) 32, r0 32 (.aload_n 0) 33, r0 33 (.iload_n 1) 34, rX 34 (.invokevirtual 333) 37 200 0 1577, r0 37 (.istore_n 2) 38, r0 38 (.iload_n 2) 39, rX 39 (.iconst (-1)) 40 1 1 0,
  rX 40 (.if_icmp .ne 9) 43 49 0 0, r0 43 (.aload_n 0) 44, rX 44 (.iconst 5) 45 5 0 0, rX 45 (.invokevirtual 74) 48 148 0 1375, r0 48 (.ireturn) 49, r0 49 (.aload_n 0) 50, rX 50 (.getfield 324) 53 9 43 1243, rX 53 (.bipush 20) 55 20 0 0,
  rX 55 (.if_icmp .ne 55) 58 110 0 0, rX 58 (.iconst 1) 59 1 0 0, r0 59 (.istore_n 3) 60, rH 60 (.iload_n 3) 61 0 0 0 0, rX 61 (.bipush 20) 63 20 0 0, rX 63 (.if_icmp .ge 37) 66 100 0 0, r0 66 (.aload_n 0) 67, rX 67 (.getfield 42) 70 9 40 1240,
  r0 70 (.iload_n 3) 71, rX 71 (.iconst 1) 72 1 0 0, r0 72 (.isub) 73, r0 73 (.aload_n 0) 74, rX 74 (.getfield 42) 77 9 40 1240, r0 77 (.iload_n 3) 78, r0 78 (.iaload) 79, r0 79 (.iastore) 80,
  r0 80 (.aload_n 0) 81, rX 81 (.getfield 45) 84 9 41 1241, r0 84 (.iload_n 3) 85, rX 85 (.iconst 1) 86 1 0 0, r0 86 (.isub) 87, r0 87 (.aload_n 0) 88, rX 88 (.getfield 45) 91 9 41 1241, r0 91 (.iload_n 3) 92,
  r0 92 (.iaload) 93, r0 93 (.iastore) 94, rX 94 (.iinc 3 1) 97 1 0 0, rX 97 (.goto (-37)) 100 60 0 0, r0 100 (.aload_n 0) 101, r0 101 (.dup) 102, rX 102 (.getfield 324) 105 9 43 1243, rX 105 (.iconst 1) 106 1 0 0,
  r0 106 (.isub) 107, rX 107 (.putfield 324) 110 9 43 1243, r0 110 (.aload_n 0) 111, rX 111 (.getfield 42) 114 9 40 1240, r0 114 (.aload_n 0) 115, rX 115 (.getfield 324) 118 9 43 1243, r0 118 (.iload_n 1) 119, r0 119 (.iastore) 120,
  r0 120 (.aload_n 0) 121, rX 121 (.getfield 45) 124 9 41 1241, r0 124 (.aload_n 0) 125, rX 125 (.getfield 324) 128 9 43 1243, r0 128 (.iload_n 2) 129, r0 129 (.iastore) 130, r0 130 (.aload_n 0) 131, r0 131 (.dup) 132,
  rX 132 (.getfield 324) 135 9 43 1243, rX 135 (.iconst 1) 136 1 0 0, r0 136 (.iadd) 137, rX 137 (.putfield 324) 140 9 43 1243, r0 140 (.aload_n 0) 141, r0 141 (.iload_n 2) 142, rX 142 (.invokevirtual 93) 145 150 0 1505, r0 145 (.ireturn) 146]
def T_r_logged : List Row := [r0 0 (.aload_n 0) 1, r0 1 (.iconst 0) 2, rX 2 (.putfield 68) 5 9 0 1200, r0 5 (.aload_n 0) 6, rX 6 (.getfield 272) 9 9 26 1226, rX 9 (.ifCond .eq 24) 12 33 0 0, r0 12 (.iload_n 1) 13, rX 13 (.ifCond .lt 20) 16 33 0 0,
  r0 16 (.iload_n 1) 17, r0 17 (.aload_n 0) 18, rX 18 (.getfield 324) 21 9 43 1243, rX 21 (.if_icmp .ge 12) 24 33 0 0, r0 24 (.iload_n 2) 25, r0 25 (.iconst 0) 26, rX 26 (.iconst 1) 27 1 0 0, rX 27 (.invokestatic 114) 30 151 1 1391,
  rX 30 (.ifCond .ne 9) 33 39 0 0, r0 33 (.aload_n 0) 34, rX 34 (.iconst 1) 35 1 0 0, rX 35 (.invokevirtual 74) 38 148 0 1375, r0 38 (.ireturn) 39, r0 39 (.aload_n 0) 40, r0 40 (.iload_n 2) 41, rX 41 (.ifCond .ne 19) 44 60 0 0,
  r0 44 (.aload_n 0) 45, rX 45 (.getfield 42) 48 9 40 1240, r0 48 (.aload_n 0) 49, rX 49 (.getfield 324) 52 9 43 1243, rX 52 (.iconst 1) 53 1 0 0, r0 53 (.isub) 54, r0 54 (.iload_n 1) 55, r0 55 (.isub) 56,
  r0 56 (.iaload) 57, rX 57 (.goto 16) 60 73 0 0, r0 60 (.aload_n 0) 61, rX 61 (.getfield 45) 64 9 41 1241, r0 64 (.aload_n 0) 65, rX 65 (.getfield 324) 68 9 43 1243, rX 68 (.iconst 1) 69 1 0 0, r0 69 (.isub) 70,
  r0 70 (.iload_n 1) 71, r0 71 (.isub) 72, r0 72 (.iaload) 73, rX 73 (.invokevirtual 93) 76 150 0 1505, r0 76 (.ireturn) 77]
def T_r_scan : List Row := [r0 0 (.aload_n 0) 1, r0 1 (.iconst 0) 2, rX 2 (.putfield 68) 5 9 0 1200, r0 5 (.aload_n 0) 6, rX 6 (.getfield 272) 9 9 26 1226, rX 9 (.ifCond .ne 9) 12 18 0 0, r0 12 (.aload_n 0) 13, rX 13 (.iconst 1) 14 1 0 0,
  rX 14 (.invokevirtual 74) 17 148 0 1375, r0 17 (.ireturn) 18, r0 18 (.aload_n 0) 19, r0 19 (.iconst 0) 20, rX 20 (.putfield 327) 23 9 46 1246, r0 23 (.iconst 0) 24, r0 24 (.istore_n 1) 25, r0 25 (.iconst 0) 26,
  r0 26 (.istore_n 2) 27, rH 27 (.iload_n 2) 28 0 0 0 0, r0 28 (.aload_n 0) 29, rX 29 (.getfield 269) 32 9 5 1205, rX 32 (.if_icmp .ge 65) 35 97 0 0, r0 35 (.aload_n 0) 36, rX 36 (.getfield 29) 39 9 27 1227, rX 39 (.bipush 62) 41 62 0 0,
  r0 41 (.iaload) 42, r0 42 (.iload_n 2) 43, rX 43 (.invokestatic 161) 46 152 1 1459, rX 46 (.ifCond .eq 6) 49 52 0 0, rX 49 (.goto 42) 52 91 0 0, r0 52 (.aload_n 0) 53, r0 53 (.aload_n 0) 54, rX 54 (.getfield 13) 57 9 10 1210,
  r0 57 (.iload_n 2) 58, r0 58 (.iaload) 59, rX 59 (.invokevirtual 333) 62 200 0 1577, r0 62 (.istore_n 3) 63, r0 63 (.iload_n 3) 64, rX 64 (.iconst (-1)) 65 1 1 0, rX 65 (.if_icmp .ne 9) 68 74 0 0, r0 68 (.aload_n 0) 69,
  rX 69 (.iconst 5) 70 5 0 0, rX 70 (.invokevirtual 74) 73 148 0 1375, r0 73 (.ireturn) 74, r0 74 (.aload_n 0) 75, rX 75 (.getfield 48) 78 9 42 1242, r0 78 (.iload_n 2) 79, r0 79 (.iload_n 3) 80, r0 80 (.aload_n 0) 81,
  rX 81 (.getfield 17) 84 9 11 1211, r0 84 (.iload_n 2) 85, r0 85 (.iaload) 86, r0 86 (.iadd) 87, r0 87 (.iastore) 88, rX 88 (.iinc 1 1) 91 1 0 0, rX 91 (.iinc 2 1) 94 1 0 0, rX 94 (.goto (-67)) 97 27 0 0,
  r0 97 (.aload_n 0) 98, rX 98 (.iconst 1) 99 1 0 0, rX 99 (.putfield 327) 102 9 46 1246, r0 102 (.aload_n 0) 103, r0 103 (.iload_n 1) 104, rX 104 (.invokevirtual 93) 107 150 0 1505, r0 107 (.ireturn) 108]
def T_r_blinds : List Row := [r0 0 (.aload_n 0) 1, r0 1 (.iconst 0) 2, rX 2 (.putfield 68) 5 9 0 1200, r0 5 (.aload_n 0) 6, rX 6 (.getfield 272) 9 9 26 1226, rX 9 (.ifCond .ne 9) 12 18 0 0, r0 12 (.aload_n 0) 13, rX 13 (.iconst 1) 14 1 0 0,
  rX 14 (.invokevirtual 74) 17 148 0 1375, r0 17 (.ireturn) 18, r0 18 (.iconst 0) 19, r0 19 (.istore_n 1) 20, r0 20 (.iconst 0) 21, r0 21 (.istore_n 2) 22, rH 22 (.iload_n 2) 23 0 0 0 0, r0 23 (.aload_n 0) 24,
  rX 24 (.getfield 269) 27 9 5 1205, rX 27 (.if_icmp .ge 57) 30 84 0 0, r0 30 (.aload_n 0) 31, rX 31 (.getfield 29) 34 9 27 1227, rX 34 (.bipush 62) 36 62 0 0, r0 36 (.iaload) 37, r0 37 (.iload_n 2) 38, rX 38 (.invokestatic 161) 41 152 1 1459,
  rX 41 (.ifCond .eq 6) 44 47 0 0, rX 44 (.goto 34) 47 78 0 0, r0 47 (.aload_n 0) 48, rX 48 (.getfield 279) 51 9 7 1207, r0 51 (.aload_n 0) 52, r0 52 (.aload_n 0) 53, rX 53 (.getfield 13) 56 9 10 1210, r0 56 (.iload_n 2) 57,
  r0 57 (.iaload) 58, rX 58 (.invokevirtual 330) 61 199 0 1581, r0 61 (.iadd) 62, r0 62 (.aload_n 0) 63, rX 63 (.getfield 281) 66 9 8 1208, rX 66 (.if_icmp .le 9) 69 75 0 0, r0 69 (.aload_n 0) 70, r0 70 (.iload_n 1) 71,
  rX 71 (.invokevirtual 93) 74 150 0 1505, r0 74 (.ireturn) 75, rX 75 (.iinc 1 1) 78 1 0 0, rX 78 (.iinc 2 1) 81 1 0 0, rX 81 (.goto (-59)) 84 22 0 0, r0 84 (.aload_n 0) 85, rX 85 (.bipush (-2)) 87 2 1 0, rX 87 (.invokevirtual 93) 90 150 0 1505,
  r0 90 (.ireturn) 91]
def T_r_refusedLow : List Row := [r0 0 (.aload_n 0) 1, r0 1 (.iload_n 1) 2, rX 2 (.invokevirtual 74) 5 148 0 1375, r0 5 (.pop) 6, rX 6 (.ldc_w 323) 9 2147483648 1 1568, r0 9 (.ireturn) 10]
def T_r_reading : List Row := [r0 0 (.aload_n 0) 1, r0 1 (.iconst 0) 2, rX 2 (.putfield 68) 5 9 0 1200, r0 5 (.aload_n 0) 6, r0 6 (.iload_n 1) 7, rX 7 (.invokevirtual 314) 10 187 0 1532, rX 10 (.ifCond .ne 9) 13 19 0 0, r0 13 (.aload_n 0) 14,
  rX 14 (.iconst 1) 15 1 0 0, rX 15 (.invokevirtual 336) 18 205 0 1601, r0 18 (.ireturn) 19, r0 19 (.aload_n 0) 20, rX 20 (.getfield 327) 23 9 46 1246, rX 23 (.ifCond .eq 30) 26 53 0 0, r0 26 (.aload_n 0) 27, rX 27 (.getfield 29) 30 9 27 1227,
  rX 30 (.bipush 62) 32 62 0 0, r0 32 (.iaload) 33, r0 33 (.iload_n 1) 34, rX 34 (.invokestatic 161) 37 152 1 1459, rX 37 (.ifCond .ne 16) 40 53 0 0, r0 40 (.aload_n 0) 41, r0 41 (.aload_n 0) 42, rX 42 (.getfield 48) 45 9 42 1242,
  r0 45 (.iload_n 1) 46, r0 46 (.iaload) 47, rX 47 (.invokevirtual 93) 50 150 0 1505, rX 50 (.goto 8) 53 58 0 0, r0 53 (.aload_n 0) 54, rX 54 (.iconst 5) 55 5 0 0, rX 55 (.invokevirtual 336) 58 205 0 1601, r0 58 (.ireturn) 59]
def T_r_losses : List Row := [r0 0 (.aload_n 0) 1, rX 1 (.getfield 29) 4 9 27 1227, rX 4 (.bipush 62) 6 62 0 0, r0 6 (.iaload) 7, rX 7 (.invokestatic 311) 10 153 1 1525, r0 10 (.ireturn) 11]
def T_r_netSum : List Row := [r0 0 (.iconst 0) 1, r0 1 (.istore_n 1) 2, r0 2 (.iconst 0) 3, r0 3 (.istore_n 2) 4, rH 4 (.iload_n 2) 5 0 0 0 0, r0 5 (.aload_n 0) 6, rX 6 (.getfield 269) 9 9 5 1205, rX 9 (.if_icmp .ge 37) 12 46 0 0,
  r0 12 (.aload_n 0) 13, rX 13 (.getfield 29) 16 9 27 1227, rX 16 (.bipush 62) 18 62 0 0, r0 18 (.iaload) 19, r0 19 (.iload_n 2) 20, rX 20 (.invokestatic 161) 23 152 1 1459, rX 23 (.ifCond .ne 17) 26 40 0 0, r0 26 (.iload_n 1) 27,
  r0 27 (.aload_n 0) 28, rX 28 (.getfield 48) 31 9 42 1242, r0 31 (.iload_n 2) 32, r0 32 (.iaload) 33, r0 33 (.aload_n 0) 34, rX 34 (.getfield 279) 37 9 7 1207, r0 37 (.isub) 38, r0 38 (.iadd) 39,
  r0 39 (.istore_n 1) 40, rX 40 (.iinc 2 1) 43 1 0 0, rX 43 (.goto (-39)) 46 4 0 0, r0 46 (.iload_n 1) 47, r0 47 (.ireturn) 48]
def T_r_netOf : List Row := [r0 0 (.aload_n 0) 1, rX 1 (.getfield 29) 4 9 27 1227, rX 4 (.bipush 62) 6 62 0 0, r0 6 (.iaload) 7, r0 7 (.iload_n 1) 8, rX 8 (.invokestatic 161) 11 152 1 1459, rX 11 (.ifCond .eq 24) 14 35 0 0, r0 14 (.aload_n 0) 15,
  rX 15 (.getfield 269) 18 9 5 1205, rX 18 (.iconst 1) 19 1 0 0, r0 19 (.iadd) 20, rX 20 (.iconst 2) 21 2 0 0, r0 21 (.idiv) 22, r0 22 (.aload_n 0) 23, rX 23 (.invokevirtual 308) 26 185 0 1521, r0 26 (.imul) 27,
  r0 27 (.aload_n 0) 28, rX 28 (.invokevirtual 339) 31 208 0 1617, r0 31 (.isub) 32, rX 32 (.goto 14) 35 46 0 0, r0 35 (.aload_n 0) 36, rX 36 (.getfield 48) 39 9 42 1242, r0 39 (.iload_n 1) 40, r0 40 (.iaload) 41,
  r0 41 (.aload_n 0) 42, rX 42 (.getfield 279) 45 9 7 1207, r0 45 (.isub) 46, r0 46 (.ireturn) 47]
def T_r_net : List Row := [r0 0 (.aload_n 0) 1, r0 1 (.iconst 0) 2, rX 2 (.putfield 68) 5 9 0 1200, r0 5 (.aload_n 0) 6, r0 6 (.iload_n 1) 7, rX 7 (.invokevirtual 314) 10 187 0 1532, rX 10 (.ifCond .ne 9) 13 19 0 0, r0 13 (.aload_n 0) 14,
  rX 14 (.iconst 1) 15 1 0 0, rX 15 (.invokevirtual 336) 18 205 0 1601, r0 18 (.ireturn) 19, r0 19 (.aload_n 0) 20, rX 20 (.getfield 327) 23 9 46 1246, rX 23 (.ifCond .eq 25) 26 48 0 0, r0 26 (.aload_n 0) 27, rX 27 (.getfield 29) 30 9 27 1227,
  rX 30 (.bipush 62) 32 62 0 0, r0 32 (.iaload) 33, r0 33 (.iload_n 1) 34, rX 34 (.invokestatic 161) 37 152 1 1459, rX 37 (.ifCond .eq 17) 40 54 0 0, r0 40 (.aload_n 0) 41, rX 41 (.invokevirtual 342) 44 207 0 1609, rX 44 (.iconst 1) 45 1 0 0,
  rX 45 (.if_icmp .le 9) 48 54 0 0, r0 48 (.aload_n 0) 49, rX 49 (.iconst 5) 50 5 0 0, rX 50 (.invokevirtual 336) 53 205 0 1601, r0 53 (.ireturn) 54, r0 54 (.aload_n 0) 55, r0 55 (.aload_n 0) 56, r0 56 (.iload_n 1) 57,
  rX 57 (.invokevirtual 345) 60 209 0 1613, rX 60 (.invokevirtual 93) 63 150 0 1505, r0 63 (.ireturn) 64]
def T_r_refuses : List Row := [r0 0 (.iload_n 1) 1, rX 1 (.ifCond .ne 7) 4 8 0 0, rX 4 (.iconst 1) 5 1 0 0, rX 5 (.goto 23) 8 28 0 0, r0 8 (.aload_n 0) 9, rX 9 (.getfield 327) 12 9 46 1246, rX 12 (.ifCond .eq 15) 15 27 0 0, r0 15 (.aload_n 0) 16,
  rX 16 (.invokevirtual 342) 19 207 0 1609, rX 19 (.iconst 2) 20 2 0 0, rX 20 (.if_icmp .ge 7) 23 27 0 0, r0 23 (.iconst 0) 24, rX 24 (.goto 4) 27 28 0 0, rX 27 (.iconst 5) 28 5 0 0, r0 28 (.ireturn) 29]
def T_r_netAll : List Row := [r0 0 (.aload_n 0) 1, rX 1 (.invokevirtual 342) 4 207 0 1609, rX 4 (.iconst 1) 5 1 0 0, rX 5 (.if_icmp .ne 19) 8 24 0 0, r0 8 (.aload_n 0) 9, rX 9 (.getfield 269) 12 9 5 1205, rX 12 (.iconst 1) 13 1 0 0, r0 13 (.iadd) 14,
  rX 14 (.iconst 2) 15 2 0 0, r0 15 (.idiv) 16, r0 16 (.aload_n 0) 17, rX 17 (.invokevirtual 308) 20 185 0 1521, r0 20 (.imul) 21, rX 21 (.goto 7) 24 28 0 0, r0 24 (.aload_n 0) 25, rX 25 (.invokevirtual 339) 28 208 0 1617,
  r0 28 (.ireturn) 29]
def T_r_partsOf : List Row := [r0 0 (.lconst 0) 1, r0 1 (.lstore_n 2) 2, r0 2 (.iconst 0) 3, r0 3 (.istore 4) 5, rH 5 (.iload 4) 7 0 0 0 0, r0 7 (.aload_n 0) 8, rX 8 (.getfield 269) 11 9 5 1205, rX 11 (.if_icmp .ge 33) 14 44 0 0,
  r0 14 (.aload_n 0) 15, rX 15 (.getfield 13) 18 9 10 1210, r0 18 (.iload 4) 20, r0 20 (.iaload) 21, r0 21 (.iload_n 1) 22, rX 22 (.invokestatic 161) 25 152 1 1459, rX 25 (.ifCond .eq 13) 28 38 0 0, r0 28 (.lload_n 2) 29,
  r0 29 (.aload_n 0) 30, r0 30 (.iload 4) 32, rX 32 (.invokevirtual 345) 35 209 0 1613, r0 35 (.i2l) 36, r0 36 (.ladd) 37, r0 37 (.lstore_n 2) 38, rX 38 (.iinc 4 1) 41 1 0 0, rX 41 (.goto (-36)) 44 5 0 0,
  rX 44 (.ldc2_w 348) 47 4 0 1638, r0 47 (.lload_n 2) 48, r0 48 (.lmul) 49, rX 49 (.ldc2_w 350) 52 2 0 1639, r0 52 (.aload_n 0) 53, rX 53 (.invokevirtual 352) 56 212 0 1640, r0 56 (.i2l) 57, r0 57 (.lmul) 58,
  r0 58 (.lsub) 59, r0 59 (.lreturn) 60]
def T_r_errorParts : List Row := [r0 0 (.aload_n 0) 1, r0 1 (.iload_n 1) 2, rX 2 (.invokevirtual 355) 5 213 0 1634, r0 5 (.aload_n 0) 6, rX 6 (.getfield 269) 9 9 5 1205, r0 9 (.i2l) 10, rX 10 (.lconst 1) 11 1 0 0, r0 11 (.ladd) 12,
  r0 12 (.aload_n 0) 13, rX 13 (.getfield 29) 16 9 27 1227, r0 16 (.iload_n 1) 17, r0 17 (.iaload) 18, r0 18 (.i2l) 19, r0 19 (.lmul) 20, r0 20 (.lsub) 21, r0 21 (.lreturn) 22]
def T_r_back : List Row := [r0 0 (.aload_n 0) 1, r0 1 (.iconst 0) 2, rX 2 (.putfield 68) 5 9 0 1200, r0 5 (.aload_n 0) 6, r0 6 (.aload_n 0) 7, r0 7 (.iload_n 1) 8, rX 8 (.invokevirtual 314) 11 187 0 1532, rX 11 (.invokevirtual 359) 14 211 0 1625,
  r0 14 (.istore_n 3) 15, r0 15 (.iload_n 3) 16, rX 16 (.ifCond .le 9) 19 25 0 0, r0 19 (.aload_n 0) 20, r0 20 (.iload_n 3) 21, rX 21 (.invokevirtual 363) 24 149 0 1629, r0 24 (.lreturn) 25, r0 25 (.aload_n 0) 26,
  r0 26 (.aload_n 0) 27, r0 27 (.iload_n 1) 28, rX 28 (.invokevirtual 355) 31 213 0 1634, r0 31 (.aload_n 0) 32, rX 32 (.getfield 269) 35 9 5 1205, r0 35 (.i2l) 36, rX 36 (.lconst 1) 37 1 0 0, r0 37 (.ladd) 38,
  rX 38 (.invokevirtual 366) 41 155 0 1644, r0 41 (.aload_n 0) 42, r0 42 (.iload_n 2) 43, rX 43 (.invokevirtual 370) 46 156 0 1651, r0 46 (.lreturn) 47]
def T_r_odds : List Row := [r0 0 (.aload_n 0) 1, r0 1 (.iconst 0) 2, rX 2 (.putfield 68) 5 9 0 1200, r0 5 (.aload_n 0) 6, r0 6 (.aload_n 0) 7, rX 7 (.getfield 272) 10 9 26 1226, rX 10 (.invokevirtual 359) 13 211 0 1625, r0 13 (.istore_n 1) 14,
  r0 14 (.iload_n 1) 15, rX 15 (.ifCond .le 9) 18 24 0 0, r0 18 (.aload_n 0) 19, r0 19 (.iload_n 1) 20, rX 20 (.invokevirtual 74) 23 148 0 1375, r0 23 (.ireturn) 24, r0 24 (.iconst 0) 25, r0 25 (.istore_n 2) 26,
  r0 26 (.iconst 0) 27, r0 27 (.istore_n 3) 28, rH 28 (.iload_n 3) 29 0 0 0 0, r0 29 (.aload_n 0) 30, rX 30 (.getfield 269) 33 9 5 1205, rX 33 (.if_icmp .ge 43) 36 76 0 0, r0 36 (.aload_n 0) 37, r0 37 (.iload_n 3) 38,
  rX 38 (.invokevirtual 355) 41 213 0 1634, r0 41 (.lconst 0) 42, r0 42 (.lcmp) 43, rX 43 (.ifCond .lt 21) 46 64 0 0, r0 46 (.aload_n 0) 47, r0 47 (.iload_n 3) 48, rX 48 (.invokevirtual 355) 51 213 0 1634, r0 51 (.aload_n 0) 52,
  rX 52 (.getfield 269) 55 9 5 1205, rX 55 (.iconst 1) 56 1 0 0, r0 56 (.iadd) 57, r0 57 (.i2l) 58, r0 58 (.lrem) 59, r0 59 (.lconst 0) 60, r0 60 (.lcmp) 61, rX 61 (.ifCond .eq 9) 64 70 0 0,
  r0 64 (.iload_n 2) 65, rX 65 (.iconst 1) 66 1 0 0, r0 66 (.iload_n 3) 67, r0 67 (.ishl) 68, r0 68 (.ior) 69, r0 69 (.istore_n 2) 70, rX 70 (.iinc 3 1) 73 1 0 0, rX 73 (.goto (-45)) 76 28 0 0,
  r0 76 (.aload_n 0) 77, r0 77 (.iload_n 2) 78, rX 78 (.invokevirtual 93) 81 150 0 1505, r0 81 (.ireturn) 82]
def T_r_more : List Row := [r0 0 (.aload_n 0) 1, r0 1 (.iconst 0) 2, rX 2 (.putfield 68) 5 9 0 1200, r0 5 (.aload_n 0) 6, r0 6 (.aload_n 0) 7, rX 7 (.getfield 272) 10 9 26 1226, rX 10 (.invokevirtual 359) 13 211 0 1625, r0 13 (.istore_n 2) 14,
  r0 14 (.iload_n 2) 15, rX 15 (.ifCond .le 9) 18 24 0 0, r0 18 (.aload_n 0) 19, r0 19 (.iload_n 2) 20, rX 20 (.invokevirtual 363) 23 149 0 1629, r0 23 (.lreturn) 24, r0 24 (.lconst 0) 25, r0 25 (.lstore_n 3) 26,
  r0 26 (.iconst 0) 27, r0 27 (.istore 5) 29, rH 29 (.iload 5) 31 0 0 0 0, r0 31 (.aload_n 0) 32, rX 32 (.getfield 269) 35 9 5 1205, rX 35 (.if_icmp .ge 18) 38 53 0 0, r0 38 (.lload_n 3) 39, r0 39 (.aload_n 0) 40,
  r0 40 (.iload 5) 42, rX 42 (.invokevirtual 374) 45 214 0 1663, r0 45 (.ladd) 46, r0 46 (.lstore_n 3) 47, rX 47 (.iinc 5 1) 50 1 0 0, rX 50 (.goto (-21)) 53 29 0 0, r0 53 (.aload_n 0) 54, r0 54 (.lload_n 3) 55,
  r0 55 (.aload_n 0) 56, rX 56 (.getfield 269) 59 9 5 1205, r0 59 (.i2l) 60, rX 60 (.lconst 1) 61 1 0 0, r0 61 (.ladd) 62, rX 62 (.invokevirtual 366) 65 155 0 1644, r0 65 (.aload_n 0) 66, r0 66 (.iload_n 1) 67,
  rX 67 (.invokevirtual 370) 70 156 0 1651, r0 70 (.lreturn) 71]
def T_r_error : List Row := [r0 0 (.aload_n 0) 1, r0 1 (.iconst 0) 2, rX 2 (.putfield 68) 5 9 0 1200, r0 5 (.aload_n 0) 6, r0 6 (.aload_n 0) 7, r0 7 (.iload_n 1) 8, rX 8 (.invokevirtual 314) 11 187 0 1532, rX 11 (.invokevirtual 359) 14 211 0 1625,
  r0 14 (.istore_n 3) 15, r0 15 (.iload_n 3) 16, rX 16 (.ifCond .le 9) 19 25 0 0, r0 19 (.aload_n 0) 20, r0 20 (.iload_n 3) 21, rX 21 (.invokevirtual 363) 24 149 0 1629, r0 24 (.lreturn) 25, r0 25 (.aload_n 0) 26,
  r0 26 (.aload_n 0) 27, r0 27 (.iload_n 1) 28, rX 28 (.invokevirtual 374) 31 214 0 1663, r0 31 (.aload_n 0) 32, rX 32 (.getfield 269) 35 9 5 1205, r0 35 (.i2l) 36, rX 36 (.lconst 1) 37 1 0 0, r0 37 (.ladd) 38,
  rX 38 (.invokevirtual 366) 41 155 0 1644, r0 41 (.aload_n 0) 42, r0 42 (.iload_n 2) 43, rX 43 (.invokevirtual 370) 46 156 0 1651, r0 46 (.lreturn) 47]
def T_r_errors : List Row := [r0 0 (.aload_n 0) 1, r0 1 (.iconst 0) 2, rX 2 (.putfield 68) 5 9 0 1200, r0 5 (.aload_n 0) 6, r0 6 (.aload_n 0) 7, rX 7 (.getfield 272) 10 9 26 1226, rX 10 (.invokevirtual 359) 13 211 0 1625, r0 13 (.istore_n 2) 14,
  r0 14 (.iload_n 2) 15, rX 15 (.ifCond .le 9) 18 24 0 0, r0 18 (.aload_n 0) 19, r0 19 (.iload_n 2) 20, rX 20 (.invokevirtual 363) 23 149 0 1629, r0 23 (.lreturn) 24, r0 24 (.lconst 0) 25, r0 25 (.lstore_n 3) 26,
  r0 26 (.iconst 0) 27, r0 27 (.istore 5) 29, rH 29 (.iload 5) 31 0 0 0 0, r0 31 (.aload_n 0) 32, rX 32 (.getfield 269) 35 9 5 1205, rX 35 (.if_icmp .ge 25) 38 60 0 0, r0 38 (.lload_n 3) 39, r0 39 (.aload_n 0) 40,
  r0 40 (.iload 5) 42, rX 42 (.invokevirtual 374) 45 214 0 1663, r0 45 (.aload_n 0) 46, r0 46 (.iload 5) 48, rX 48 (.invokevirtual 374) 51 214 0 1663, r0 51 (.lmul) 52, r0 52 (.ladd) 53, r0 53 (.lstore_n 3) 54,
  rX 54 (.iinc 5 1) 57 1 0 0, rX 57 (.goto (-28)) 60 29 0 0, r0 60 (.aload_n 0) 61, r0 61 (.lload_n 3) 62, r0 62 (.aload_n 0) 63, rX 63 (.getfield 269) 66 9 5 1205, r0 66 (.i2l) 67, rX 67 (.lconst 1) 68 1 0 0,
  r0 68 (.ladd) 69, r0 69 (.aload_n 0) 70, rX 70 (.getfield 269) 73 9 5 1205, r0 73 (.i2l) 74, rX 74 (.lconst 1) 75 1 0 0, r0 75 (.ladd) 76, r0 76 (.lmul) 77, rX 77 (.invokevirtual 366) 80 155 0 1644,
  r0 80 (.aload_n 0) 81, r0 81 (.iload_n 1) 82, rX 82 (.invokevirtual 370) 85 156 0 1651, r0 85 (.lreturn) 86]
def T_r_plain : List Row := [r0 0 (.lload_n 0) 1, r0 1 (.lconst 0) 2, r0 2 (.lcmp) 3, rX 3 (.ifCond .ge 8) 6 11 0 0, r0 6 (.lload_n 0) 7, r0 7 (.lneg) 8, rX 8 (.goto 4) 11 12 0 0, r0 11 (.lload_n 0) 12,
  r0 12 (.lreturn) 13]
def T_r_worst : List Row := [r0 0 (.aload_n 0) 1, r0 1 (.iconst 0) 2, rX 2 (.putfield 68) 5 9 0 1200, r0 5 (.aload_n 0) 6, r0 6 (.aload_n 0) 7, rX 7 (.getfield 272) 10 9 26 1226, rX 10 (.invokevirtual 359) 13 211 0 1625, r0 13 (.istore_n 1) 14,
  r0 14 (.iload_n 1) 15, rX 15 (.ifCond .le 9) 18 24 0 0, r0 18 (.aload_n 0) 19, r0 19 (.iload_n 1) 20, rX 20 (.invokevirtual 74) 23 148 0 1375, r0 23 (.ireturn) 24, r0 24 (.iconst 0) 25, r0 25 (.istore_n 2) 26,
  rX 26 (.iconst 1) 27 1 0 0, r0 27 (.istore_n 3) 28, rH 28 (.iload_n 3) 29 0 0 0 0, r0 29 (.aload_n 0) 30, rX 30 (.getfield 269) 33 9 5 1205, rX 33 (.if_icmp .ge 31) 36 64 0 0, r0 36 (.aload_n 0) 37, r0 37 (.iload_n 3) 38,
  rX 38 (.invokevirtual 374) 41 214 0 1663, rX 41 (.invokestatic 377) 44 220 1 1679, r0 44 (.aload_n 0) 45, r0 45 (.iload_n 2) 46, rX 46 (.invokevirtual 374) 49 214 0 1663, rX 49 (.invokestatic 377) 52 220 1 1679, r0 52 (.lcmp) 53, rX 53 (.ifCond .le 5) 56 58 0 0,
  r0 56 (.iload_n 3) 57, r0 57 (.istore_n 2) 58, rX 58 (.iinc 3 1) 61 1 0 0, rX 61 (.goto (-33)) 64 28 0 0, r0 64 (.aload_n 0) 65, r0 65 (.iload_n 2) 66, rX 66 (.invokevirtual 93) 69 150 0 1505, r0 69 (.ireturn) 70]
def T_r_share : List Row := [r0 0 (.aload_n 0) 1, r0 1 (.iconst 0) 2, rX 2 (.putfield 68) 5 9 0 1200, r0 5 (.aload_n 0) 6, rX 6 (.getfield 272) 9 9 26 1226, rX 9 (.ifCond .ne 10) 12 19 0 0, r0 12 (.aload_n 0) 13, rX 13 (.iconst 1) 14 1 0 0,
  rX 14 (.invokevirtual 74) 17 148 0 1375, r0 17 (.i2l) 18, r0 18 (.lreturn) 19, r0 19 (.aload_n 0) 20, rX 20 (.ldc2_w 348) 23 4 0 1638, r0 23 (.aload_n 0) 24, rX 24 (.getfield 269) 27 9 5 1205, r0 27 (.i2l) 28,
  r0 28 (.lmul) 29, r0 29 (.aload_n 0) 30, rX 30 (.getfield 269) 33 9 5 1205, r0 33 (.i2l) 34, rX 34 (.lconst 1) 35 1 0 0, r0 35 (.ladd) 36, r0 36 (.aload_n 0) 37, rX 37 (.getfield 269) 40 9 5 1205,
  r0 40 (.i2l) 41, rX 41 (.lconst 1) 42 1 0 0, r0 42 (.ladd) 43, r0 43 (.lmul) 44, rX 44 (.invokevirtual 366) 47 155 0 1644, r0 47 (.aload_n 0) 48, r0 48 (.iload_n 1) 49, rX 49 (.invokevirtual 370) 52 156 0 1651,
  r0 52 (.lreturn) 53]
def T_r_grains : List Row := [r0 0 (.aload_n 0) 1, r0 1 (.iconst 0) 2, rX 2 (.putfield 68) 5 9 0 1200, r0 5 (.aload_n 0) 6, r0 6 (.aload_n 0) 7, rX 7 (.getfield 272) 10 9 26 1226, rX 10 (.invokevirtual 359) 13 211 0 1625, r0 13 (.istore_n 2) 14,
  r0 14 (.iload_n 2) 15, rX 15 (.ifCond .le 9) 18 24 0 0, r0 18 (.aload_n 0) 19, r0 19 (.iload_n 2) 20, rX 20 (.invokevirtual 363) 23 149 0 1629, r0 23 (.lreturn) 24, r0 24 (.aload_n 0) 25, rX 25 (.ldc2_w 348) 28 4 0 1638,
  r0 28 (.aload_n 0) 29, rX 29 (.invokevirtual 352) 32 212 0 1640, r0 32 (.i2l) 33, r0 33 (.lmul) 34, r0 34 (.aload_n 0) 35, rX 35 (.getfield 269) 38 9 5 1205, r0 38 (.i2l) 39, rX 39 (.lconst 1) 40 1 0 0,
  r0 40 (.ladd) 41, r0 41 (.aload_n 0) 42, rX 42 (.getfield 269) 45 9 5 1205, r0 45 (.i2l) 46, rX 46 (.lconst 1) 47 1 0 0, r0 47 (.ladd) 48, r0 48 (.lmul) 49, rX 49 (.invokevirtual 366) 52 155 0 1644,
  r0 52 (.aload_n 0) 53, r0 53 (.iload_n 1) 54, rX 54 (.invokevirtual 370) 57 156 0 1651, r0 57 (.lreturn) 58]
def T_r_better : List Row := [r0 0 (.aload_n 0) 1, r0 1 (.iconst 0) 2, rX 2 (.putfield 68) 5 9 0 1200, r0 5 (.aload_n 0) 6, r0 6 (.aload_n 0) 7, rX 7 (.getfield 272) 10 9 26 1226, rX 10 (.invokevirtual 359) 13 211 0 1625, r0 13 (.istore_n 1) 14,
  r0 14 (.iload_n 1) 15, rX 15 (.ifCond .le 9) 18 24 0 0, r0 18 (.aload_n 0) 19, r0 19 (.iload_n 1) 20, rX 20 (.invokevirtual 74) 23 148 0 1375, r0 23 (.ireturn) 24, r0 24 (.iconst 0) 25, r0 25 (.istore_n 2) 26,
  r0 26 (.iconst 0) 27, r0 27 (.istore_n 3) 28, rH 28 (.iload_n 3) 29 0 0 0 0, r0 29 (.aload_n 0) 30, rX 30 (.getfield 269) 33 9 5 1205, rX 33 (.if_icmp .ge 41) 36 74 0 0, rX 36 (.ldc2_w 348) 39 4 0 1638, r0 39 (.aload_n 0) 40,
  rX 40 (.invokevirtual 352) 43 212 0 1640, r0 43 (.i2l) 44, r0 44 (.lmul) 45, r0 45 (.aload_n 0) 46, r0 46 (.iload_n 3) 47, rX 47 (.invokevirtual 355) 50 213 0 1634, r0 50 (.aload_n 0) 51, rX 51 (.getfield 269) 54 9 5 1205,
  r0 54 (.i2l) 55, rX 55 (.lconst 1) 56 1 0 0, r0 56 (.ladd) 57, r0 57 (.lmul) 58, r0 58 (.lcmp) 59, rX 59 (.ifCond .ge 9) 62 68 0 0, r0 62 (.iload_n 2) 63, rX 63 (.iconst 1) 64 1 0 0,
  r0 64 (.iload_n 3) 65, r0 65 (.ishl) 66, r0 66 (.ior) 67, r0 67 (.istore_n 2) 68, rX 68 (.iinc 3 1) 71 1 0 0, rX 71 (.goto (-43)) 74 28 0 0, r0 74 (.aload_n 0) 75, r0 75 (.iload_n 2) 76,
  rX 76 (.invokevirtual 93) 79 150 0 1505, r0 79 (.ireturn) 80]
def T_r_aloneOf : List Row := [r0 0 (.aload_n 0) 1, rX 1 (.iconst 1) 2 1 0 0, r0 2 (.iload_n 1) 3, r0 3 (.ishl) 4, rX 4 (.invokevirtual 330) 7 199 0 1581, r0 7 (.aload_n 0) 8, rX 8 (.getfield 17) 11 9 11 1211, r0 11 (.iload_n 1) 12,
  r0 12 (.iaload) 13, r0 13 (.iadd) 14, r0 14 (.ireturn) 15]
def T_r_offAlone : List Row := [r0 0 (.aload_n 0) 1, r0 1 (.iload_n 1) 2, rX 2 (.invokevirtual 381) 5 225 0 1698, r0 5 (.aload_n 0) 6, rX 6 (.getfield 29) 9 9 27 1227, r0 9 (.iload_n 1) 10, r0 10 (.iaload) 11, r0 11 (.isub) 12,
  r0 12 (.i2l) 13, rX 13 (.invokestatic 377) 16 220 1 1679, r0 16 (.lreturn) 17]
def T_r_alone : List Row := [r0 0 (.aload_n 0) 1, r0 1 (.iconst 0) 2, rX 2 (.putfield 68) 5 9 0 1200, r0 5 (.aload_n 0) 6, r0 6 (.iload_n 1) 7, rX 7 (.invokevirtual 314) 10 187 0 1532, rX 10 (.ifCond .eq 13) 13 23 0 0, r0 13 (.aload_n 0) 14,
  r0 14 (.aload_n 0) 15, r0 15 (.iload_n 1) 16, rX 16 (.invokevirtual 381) 19 225 0 1698, rX 19 (.invokevirtual 93) 22 150 0 1505, r0 22 (.ireturn) 23, r0 23 (.aload_n 0) 24, rX 24 (.iconst 1) 25 1 0 0, rX 25 (.invokevirtual 336) 28 205 0 1601,
  r0 28 (.ireturn) 29]
def T_r_alones : List Row := [r0 0 (.aload_n 0) 1, r0 1 (.iconst 0) 2, rX 2 (.putfield 68) 5 9 0 1200, r0 5 (.aload_n 0) 6, rX 6 (.getfield 272) 9 9 26 1226, rX 9 (.ifCond .ne 10) 12 19 0 0, r0 12 (.aload_n 0) 13, rX 13 (.iconst 1) 14 1 0 0,
  rX 14 (.invokevirtual 74) 17 148 0 1375, r0 17 (.i2l) 18, r0 18 (.lreturn) 19, r0 19 (.lconst 0) 20, r0 20 (.lstore_n 1) 21, r0 21 (.iconst 0) 22, r0 22 (.istore_n 3) 23, rH 23 (.iload_n 3) 24 0 0 0 0,
  r0 24 (.aload_n 0) 25, rX 25 (.getfield 269) 28 9 5 1205, rX 28 (.if_icmp .ge 23) 31 51 0 0, r0 31 (.lload_n 1) 32, r0 32 (.aload_n 0) 33, r0 33 (.iload_n 3) 34, rX 34 (.invokevirtual 384) 37 226 0 1706, r0 37 (.aload_n 0) 38,
  r0 38 (.iload_n 3) 39, rX 39 (.invokevirtual 384) 42 226 0 1706, r0 42 (.lmul) 43, r0 43 (.ladd) 44, r0 44 (.lstore_n 1) 45, rX 45 (.iinc 3 1) 48 1 0 0, rX 48 (.goto (-25)) 51 23 0 0, r0 51 (.aload_n 0) 52,
  r0 52 (.iconst 0) 53, rX 53 (.invokevirtual 93) 56 150 0 1505, r0 56 (.pop) 57, r0 57 (.lload_n 1) 58, r0 58 (.lreturn) 59]
def T_r_closer : List Row := [r0 0 (.aload_n 0) 1, r0 1 (.iconst 0) 2, rX 2 (.putfield 68) 5 9 0 1200, r0 5 (.aload_n 0) 6, r0 6 (.aload_n 0) 7, rX 7 (.getfield 272) 10 9 26 1226, rX 10 (.invokevirtual 359) 13 211 0 1625, r0 13 (.istore_n 1) 14,
  r0 14 (.iload_n 1) 15, rX 15 (.ifCond .le 9) 18 24 0 0, r0 18 (.aload_n 0) 19, r0 19 (.iload_n 1) 20, rX 20 (.invokevirtual 74) 23 148 0 1375, r0 23 (.ireturn) 24, r0 24 (.iconst 0) 25, r0 25 (.istore_n 2) 26,
  r0 26 (.iconst 0) 27, r0 27 (.istore_n 3) 28, rH 28 (.iload_n 3) 29 0 0 0 0, r0 29 (.aload_n 0) 30, rX 30 (.getfield 269) 33 9 5 1205, rX 33 (.if_icmp .ge 40) 36 73 0 0, r0 36 (.aload_n 0) 37, r0 37 (.iload_n 3) 38,
  rX 38 (.invokevirtual 374) 41 214 0 1663, rX 41 (.invokestatic 377) 44 220 1 1679, r0 44 (.aload_n 0) 45, r0 45 (.iload_n 3) 46, rX 46 (.invokevirtual 384) 49 226 0 1706, r0 49 (.aload_n 0) 50, rX 50 (.getfield 269) 53 9 5 1205, r0 53 (.i2l) 54,
  rX 54 (.lconst 1) 55 1 0 0, r0 55 (.ladd) 56, r0 56 (.lmul) 57, r0 57 (.lcmp) 58, rX 58 (.ifCond .ge 9) 61 67 0 0, r0 61 (.iload_n 2) 62, rX 62 (.iconst 1) 63 1 0 0, r0 63 (.iload_n 3) 64,
  r0 64 (.ishl) 65, r0 65 (.ior) 66, r0 66 (.istore_n 2) 67, rX 67 (.iinc 3 1) 70 1 0 0, rX 70 (.goto (-42)) 73 28 0 0, r0 73 (.aload_n 0) 74, r0 74 (.iload_n 2) 75, rX 75 (.invokevirtual 93) 78 150 0 1505,
  r0 78 (.ireturn) 79]
def T_r_isSuspect : List Row := [r0 0 (.iload_n 1) 1, rX 1 (.ifCond .ne 32) 4 33 0 0, r0 4 (.aload_n 0) 5, rX 5 (.invokevirtual 387) 8 232 0 1726, rX 8 (.ifCond .eq 23) 11 31 0 0, r0 11 (.aload_n 0) 12, rX 12 (.invokevirtual 391) 15 235 0 1734, rX 15 (.ifCond .eq 16) 18 31 0 0,
  r0 18 (.aload_n 0) 19, r0 19 (.iconst 0) 20, r0 20 (.iconst 0) 21, rX 21 (.invokevirtual 394) 24 236 0 1739, rX 24 (.ifCond .eq 7) 27 31 0 0, rX 27 (.iconst 1) 28 1 0 0, rX 28 (.goto 4) 31 32 0 0, r0 31 (.iconst 0) 32,
  r0 32 (.ireturn) 33, r0 33 (.iload_n 1) 34, rX 34 (.iconst 1) 35 1 0 0, r0 35 (.isub) 36, rX 36 (.iconst 2) 37 2 0 0, r0 37 (.idiv) 38, r0 38 (.istore_n 2) 39, r0 39 (.iload_n 1) 40,
  rX 40 (.iconst 2) 41 2 0 0, r0 41 (.irem) 42, rX 42 (.iconst 1) 43 1 0 0, rX 43 (.if_icmp .ne 35) 46 78 0 0, r0 46 (.aload_n 0) 47, r0 47 (.iload_n 2) 48, rX 48 (.invokevirtual 397) 51 233 0 1747, rX 51 (.ifCond .eq 25) 54 76 0 0,
  r0 54 (.aload_n 0) 55, rX 55 (.invokevirtual 391) 58 235 0 1734, rX 58 (.ifCond .eq 18) 61 76 0 0, r0 61 (.aload_n 0) 62, rX 62 (.iconst 1) 63 1 0 0, r0 63 (.iload_n 2) 64, r0 64 (.ishl) 65, r0 65 (.iconst 0) 66,
  rX 66 (.invokevirtual 394) 69 236 0 1739, rX 69 (.ifCond .eq 7) 72 76 0 0, rX 72 (.iconst 1) 73 1 0 0, rX 73 (.goto 4) 76 77 0 0, r0 76 (.iconst 0) 77, r0 77 (.ireturn) 78, r0 78 (.aload_n 0) 79, r0 79 (.iload_n 2) 80,
  rX 80 (.invokevirtual 400) 83 234 0 1751, rX 83 (.ifCond .eq 25) 86 108 0 0, r0 86 (.aload_n 0) 87, rX 87 (.invokevirtual 391) 90 235 0 1734, rX 90 (.ifCond .eq 18) 93 108 0 0, r0 93 (.aload_n 0) 94, r0 94 (.iconst 0) 95, rX 95 (.iconst 1) 96 1 0 0,
  r0 96 (.iload_n 2) 97, r0 97 (.ishl) 98, rX 98 (.invokevirtual 394) 101 236 0 1739, rX 101 (.ifCond .eq 7) 104 108 0 0, rX 104 (.iconst 1) 105 1 0 0, rX 105 (.goto 4) 108 109 0 0, r0 108 (.iconst 0) 109, r0 109 (.ireturn) 110]
def T_r_supposes : List Row := [r0 0 (.aload_n 0) 1, rX 1 (.getfield 51) 4 9 47 1247, r0 4 (.iload_n 1) 5, r0 5 (.lload_n 2) 6, r0 6 (.aload_n 0) 7, rX 7 (.getfield 269) 10 9 5 1205, r0 10 (.i2l) 11, rX 11 (.lconst 1) 12 1 0 0,
  r0 12 (.ladd) 13, r0 13 (.ldiv) 14, r0 14 (.lastore) 15, r0 15 (.lload_n 2) 16, r0 16 (.aload_n 0) 17, rX 17 (.getfield 269) 20 9 5 1205, r0 20 (.i2l) 21, rX 21 (.lconst 1) 22 1 0 0,
  r0 22 (.ladd) 23, r0 23 (.lrem) 24, r0 24 (.lconst 0) 25, r0 25 (.lcmp) 26, rX 26 (.ifCond .ne 7) 29 33 0 0, rX 29 (.iconst 1) 30 1 0 0, rX 30 (.goto 4) 33 34 0 0, r0 33 (.iconst 0) 34,
  r0 34 (.ireturn) 35]
def T_r_supposesFine : List Row := [rX 0 (.iconst 1) 1 1 0 0, r0 1 (.istore_n 1) 2, r0 2 (.iconst 0) 3, r0 3 (.istore_n 2) 4, rH 4 (.iload_n 2) 5 0 0 0 0, r0 5 (.aload_n 0) 6, rX 6 (.getfield 269) 9 9 5 1205, rX 9 (.if_icmp .ge 32) 12 41 0 0,
  r0 12 (.aload_n 0) 13, r0 13 (.iload_n 2) 14, r0 14 (.aload_n 0) 15, r0 15 (.iload_n 2) 16, rX 16 (.invokevirtual 355) 19 213 0 1634, rX 19 (.invokevirtual 403) 22 231 0 1730, rX 22 (.ifCond .eq 11) 25 33 0 0, r0 25 (.iload_n 1) 26,
  rX 26 (.ifCond .eq 7) 29 33 0 0, rX 29 (.iconst 1) 30 1 0 0, rX 30 (.goto 4) 33 34 0 0, r0 33 (.iconst 0) 34, r0 34 (.istore_n 1) 35, rX 35 (.iinc 2 1) 38 1 0 0, rX 38 (.goto (-34)) 41 4 0 0, r0 41 (.iload_n 1) 42,
  r0 42 (.ireturn) 43]
def T_r_supposesOpen : List Row := [rX 0 (.iconst 1) 1 1 0 0, r0 1 (.istore_n 2) 2, r0 2 (.iconst 0) 3, r0 3 (.istore_n 3) 4, rH 4 (.iload_n 3) 5 0 0 0 0, r0 5 (.aload_n 0) 6, rX 6 (.getfield 269) 9 9 5 1205, rX 9 (.if_icmp .ge 67) 12 76 0 0,
  r0 12 (.iload_n 3) 13, r0 13 (.iload_n 1) 14, rX 14 (.if_icmp .ne 23) 17 37 0 0, r0 17 (.aload_n 0) 18, r0 18 (.iload_n 1) 19, rX 19 (.invokevirtual 355) 22 213 0 1634, r0 22 (.aload_n 0) 23, rX 23 (.getfield 269) 26 9 5 1205,
  r0 26 (.i2l) 27, rX 27 (.lconst 1) 28 1 0 0, r0 28 (.ladd) 29, rX 29 (.ldc2_w 350) 32 2 0 1639, r0 32 (.ldiv) 33, r0 33 (.lmul) 34, rX 34 (.goto 14) 37 48 0 0, r0 37 (.aload_n 0) 38,
  r0 38 (.iload_n 3) 39, rX 39 (.invokevirtual 355) 42 213 0 1634, r0 42 (.aload_n 0) 43, r0 43 (.iload_n 1) 44, rX 44 (.invokevirtual 355) 47 213 0 1634, r0 47 (.lsub) 48, r0 48 (.lstore 4) 50, r0 50 (.aload_n 0) 51,
  r0 51 (.iload_n 3) 52, r0 52 (.lload 4) 54, rX 54 (.invokevirtual 403) 57 231 0 1730, rX 57 (.ifCond .eq 11) 60 68 0 0, r0 60 (.iload_n 2) 61, rX 61 (.ifCond .eq 7) 64 68 0 0, rX 64 (.iconst 1) 65 1 0 0, rX 65 (.goto 4) 68 69 0 0,
  r0 68 (.iconst 0) 69, r0 69 (.istore_n 2) 70, rX 70 (.iinc 3 1) 73 1 0 0, rX 73 (.goto (-69)) 76 4 0 0, r0 76 (.iload_n 2) 77, r0 77 (.ireturn) 78]
def T_r_supposesShut : List Row := [r0 0 (.aload_n 0) 1, rX 1 (.invokevirtual 387) 4 232 0 1726, r0 4 (.istore_n 2) 5, r0 5 (.lconst 0) 6, r0 6 (.lstore_n 3) 7, r0 7 (.iconst 0) 8, r0 8 (.istore 5) 10, rH 10 (.iload 5) 12 0 0 0 0,
  r0 12 (.aload_n 0) 13, rX 13 (.getfield 269) 16 9 5 1205, rX 16 (.if_icmp .ge 19) 19 35 0 0, r0 19 (.lload_n 3) 20, r0 20 (.aload_n 0) 21, rX 21 (.getfield 51) 24 9 47 1247, r0 24 (.iload 5) 26, r0 26 (.laload) 27,
  r0 27 (.ladd) 28, r0 28 (.lstore_n 3) 29, rX 29 (.iinc 5 1) 32 1 0 0, rX 32 (.goto (-22)) 35 10 0 0, r0 35 (.aload_n 0) 36, rX 36 (.getfield 51) 39 9 47 1247, r0 39 (.iload_n 1) 40, r0 40 (.dup2) 41,
  r0 41 (.laload) 42, r0 42 (.aload_n 0) 43, rX 43 (.invokevirtual 308) 46 185 0 1521, r0 46 (.i2l) 47, r0 47 (.lload_n 3) 48, r0 48 (.lsub) 49, r0 49 (.ladd) 50, r0 50 (.lastore) 51,
  r0 51 (.iload_n 2) 52, r0 52 (.ireturn) 53]
def T_r_areLights : List Row := [r0 0 (.lconst 0) 1, r0 1 (.lstore_n 1) 2, r0 2 (.iconst 0) 3, r0 3 (.istore_n 3) 4, rH 4 (.iload_n 3) 5 0 0 0 0, r0 5 (.aload_n 0) 6, rX 6 (.getfield 269) 9 9 5 1205, rX 9 (.if_icmp .ge 44) 12 53 0 0,
  r0 12 (.aload_n 0) 13, rX 13 (.getfield 51) 16 9 47 1247, r0 16 (.iload_n 3) 17, r0 17 (.laload) 18, r0 18 (.lconst 0) 19, r0 19 (.lcmp) 20, rX 20 (.ifCond .lt 16) 23 36 0 0, r0 23 (.aload_n 0) 24,
  rX 24 (.getfield 51) 27 9 47 1247, r0 27 (.iload_n 3) 28, r0 28 (.laload) 29, rX 29 (.ldc2_w 407) 32 9999 0 1738, r0 32 (.lcmp) 33, rX 33 (.ifCond .le 5) 36 38 0 0, r0 36 (.iconst 0) 37, r0 37 (.ireturn) 38,
  r0 38 (.lload_n 1) 39, r0 39 (.aload_n 0) 40, rX 40 (.getfield 51) 43 9 47 1247, r0 43 (.iload_n 3) 44, r0 44 (.laload) 45, r0 45 (.ladd) 46, r0 46 (.lstore_n 1) 47, rX 47 (.iinc 3 1) 50 1 0 0,
  rX 50 (.goto (-46)) 53 4 0 0, r0 53 (.lload_n 1) 54, r0 54 (.aload_n 0) 55, rX 55 (.invokevirtual 308) 58 185 0 1521, r0 58 (.i2l) 59, r0 59 (.lcmp) 60, rX 60 (.ifCond .ne 7) 63 67 0 0, rX 63 (.iconst 1) 64 1 0 0,
  rX 64 (.goto 4) 67 68 0 0, r0 67 (.iconst 0) 68, r0 68 (.ireturn) 69]
def T_r_areSeen : List Row := [r0 0 (.iconst 0) 1, r0 1 (.istore_n 3) 2, rH 2 (.iload_n 3) 3 0 0 0 0, r0 3 (.aload_n 0) 4, rX 4 (.getfield 269) 7 9 5 1205, rX 7 (.if_icmp .ge 34) 10 41 0 0, r0 10 (.aload_n 0) 11, r0 11 (.aload_n 0) 12,
  rX 12 (.getfield 13) 15 9 10 1210, r0 15 (.iload_n 3) 16, r0 16 (.iaload) 17, r0 17 (.iload_n 1) 18, r0 18 (.iload_n 2) 19, rX 19 (.invokevirtual 409) 22 237 0 1743, r0 22 (.aload_n 0) 23, rX 23 (.getfield 48) 26 9 42 1242,
  r0 26 (.iload_n 3) 27, r0 27 (.iaload) 28, r0 28 (.i2l) 29, r0 29 (.lcmp) 30, rX 30 (.ifCond .eq 5) 33 35 0 0, r0 33 (.iconst 0) 34, r0 34 (.ireturn) 35, rX 35 (.iinc 3 1) 38 1 0 0,
  rX 38 (.goto (-36)) 41 2 0 0, r0 41 (.iconst 0) 42, r0 42 (.istore_n 3) 43, rH 43 (.iload_n 3) 44 0 0 0 0, r0 44 (.aload_n 0) 45, rX 45 (.getfield 324) 48 9 43 1243, rX 48 (.if_icmp .ge 34) 51 82 0 0, r0 51 (.aload_n 0) 52,
  r0 52 (.aload_n 0) 53, rX 53 (.getfield 42) 56 9 40 1240, r0 56 (.iload_n 3) 57, r0 57 (.iaload) 58, r0 58 (.iload_n 1) 59, r0 59 (.iload_n 2) 60, rX 60 (.invokevirtual 409) 63 237 0 1743, r0 63 (.aload_n 0) 64,
  rX 64 (.getfield 45) 67 9 41 1241, r0 67 (.iload_n 3) 68, r0 68 (.iaload) 69, r0 69 (.i2l) 70, r0 70 (.lcmp) 71, rX 71 (.ifCond .eq 5) 74 76 0 0, r0 74 (.iconst 0) 75, r0 75 (.ireturn) 76,
  rX 76 (.iinc 3 1) 79 1 0 0, rX 79 (.goto (-36)) 82 43 0 0, rX 82 (.iconst 1) 83 1 0 0, r0 83 (.ireturn) 84]
def T_r_supposedRead : List Row := [r0 0 (.iload_n 1) 1, r0 1 (.iload_n 2) 2, r0 2 (.ior) 3, r0 3 (.iload_n 3) 4, rX 4 (.iconst (-1)) 5 1 1 0, r0 5 (.ixor) 6, r0 6 (.iand) 7, r0 7 (.istore 4) 9,
  r0 9 (.aload_n 0) 10, rX 10 (.getfield 279) 13 9 7 1207, r0 13 (.i2l) 14, r0 14 (.lstore 5) 16, r0 16 (.iconst 0) 17, r0 17 (.istore 7) 19, rH 19 (.iload 7) 21 0 0 0 0, r0 21 (.aload_n 0) 22,
  rX 22 (.getfield 269) 25 9 5 1205, rX 25 (.if_icmp .ge 31) 28 56 0 0, r0 28 (.iload 4) 30, r0 30 (.iload 7) 32, rX 32 (.invokestatic 161) 35 152 1 1459, rX 35 (.ifCond .eq 15) 38 50 0 0, r0 38 (.lload 5) 40, r0 40 (.aload_n 0) 41,
  rX 41 (.getfield 51) 44 9 47 1247, r0 44 (.iload 7) 46, r0 46 (.laload) 47, r0 47 (.ladd) 48, r0 48 (.lstore 5) 50, rX 50 (.iinc 7 1) 53 1 0 0, rX 53 (.goto (-34)) 56 19 0 0, r0 56 (.lload 5) 58,
  r0 58 (.lreturn) 59]
def T_r_refusesSuspects : List Row := [r0 0 (.iload_n 1) 1, rX 1 (.ifCond .ne 7) 4 8 0 0, rX 4 (.iconst 1) 5 1 0 0, rX 5 (.goto 25) 8 30 0 0, r0 8 (.aload_n 0) 9, rX 9 (.getfield 327) 12 9 46 1246, rX 12 (.ifCond .eq 17) 15 29 0 0, r0 15 (.aload_n 0) 16,
  rX 16 (.getfield 29) 19 9 27 1227, rX 19 (.bipush 62) 21 62 0 0, r0 21 (.iaload) 22, rX 22 (.ifCond .ne 7) 25 29 0 0, r0 25 (.iconst 0) 26, rX 26 (.goto 4) 29 30 0 0, rX 29 (.iconst 5) 30 5 0 0, r0 30 (.ireturn) 31]
def T_r_suspectNumber : List Row := [r0 0 (.iconst 0) 1, r0 1 (.istore_n 2) 2, r0 2 (.iconst 0) 3, r0 3 (.istore_n 3) 4, rH 4 (.iload_n 3) 5 0 0 0 0, rX 5 (.iconst 2) 6 2 0 0, r0 6 (.aload_n 0) 7, rX 7 (.getfield 269) 10 9 5 1205,
  r0 10 (.imul) 11, rX 11 (.if_icmp .gt 30) 14 41 0 0, r0 14 (.aload_n 0) 15, r0 15 (.iload_n 3) 16, rX 16 (.invokevirtual 413) 19 230 0 1722, rX 19 (.ifCond .ne 6) 22 25 0 0, rX 22 (.goto 13) 25 35 0 0, r0 25 (.iload_n 2) 26,
  r0 26 (.iload_n 1) 27, rX 27 (.if_icmp .ne 5) 30 32 0 0, r0 30 (.iload_n 3) 31, r0 31 (.ireturn) 32, rX 32 (.iinc 2 1) 35 1 0 0, rX 35 (.iinc 3 1) 38 1 0 0, rX 38 (.goto (-34)) 41 4 0 0, rX 41 (.iconst (-1)) 42 1 1 0,
  r0 42 (.ireturn) 43]
def T_r_suspects : List Row := [r0 0 (.aload_n 0) 1, r0 1 (.iconst 0) 2, rX 2 (.putfield 68) 5 9 0 1200, r0 5 (.aload_n 0) 6, r0 6 (.aload_n 0) 7, rX 7 (.getfield 272) 10 9 26 1226, rX 10 (.invokevirtual 416) 13 238 0 1718, r0 13 (.istore_n 1) 14,
  r0 14 (.iload_n 1) 15, rX 15 (.ifCond .le 9) 18 24 0 0, r0 18 (.aload_n 0) 19, r0 19 (.iload_n 1) 20, rX 20 (.invokevirtual 74) 23 148 0 1375, r0 23 (.ireturn) 24, r0 24 (.iconst 0) 25, r0 25 (.istore_n 2) 26,
  r0 26 (.iconst 0) 27, r0 27 (.istore_n 3) 28, rH 28 (.iload_n 3) 29 0 0 0 0, rX 29 (.iconst 2) 30 2 0 0, r0 30 (.aload_n 0) 31, rX 31 (.getfield 269) 34 9 5 1205, r0 34 (.imul) 35, rX 35 (.if_icmp .gt 25) 38 60 0 0,
  r0 38 (.iload_n 2) 39, r0 39 (.aload_n 0) 40, r0 40 (.iload_n 3) 41, rX 41 (.invokevirtual 413) 44 230 0 1722, rX 44 (.ifCond .eq 7) 47 51 0 0, rX 47 (.iconst 1) 48 1 0 0, rX 48 (.goto 4) 51 52 0 0, r0 51 (.iconst 0) 52,
  r0 52 (.iadd) 53, r0 53 (.istore_n 2) 54, rX 54 (.iinc 3 1) 57 1 0 0, rX 57 (.goto (-29)) 60 28 0 0, r0 60 (.aload_n 0) 61, r0 61 (.iload_n 2) 62, rX 62 (.invokevirtual 93) 65 150 0 1505, r0 65 (.ireturn) 66]
def T_r_suspect : List Row := [r0 0 (.aload_n 0) 1, r0 1 (.iconst 0) 2, rX 2 (.putfield 68) 5 9 0 1200, r0 5 (.aload_n 0) 6, r0 6 (.aload_n 0) 7, rX 7 (.getfield 272) 10 9 26 1226, rX 10 (.invokevirtual 416) 13 238 0 1718, r0 13 (.istore_n 2) 14,
  r0 14 (.iload_n 2) 15, rX 15 (.ifCond .le 9) 18 24 0 0, r0 18 (.aload_n 0) 19, r0 19 (.iload_n 2) 20, rX 20 (.invokevirtual 74) 23 148 0 1375, r0 23 (.ireturn) 24, r0 24 (.iload_n 1) 25, rX 25 (.ifCond .ge 7) 28 32 0 0,
  rX 28 (.iconst (-1)) 29 1 1 0, rX 29 (.goto 8) 32 37 0 0, r0 32 (.aload_n 0) 33, r0 33 (.iload_n 1) 34, rX 34 (.invokevirtual 419) 37 239 0 1759, r0 37 (.istore_n 3) 38, r0 38 (.iload_n 3) 39, rX 39 (.iconst (-1)) 40 1 1 0,
  rX 40 (.if_icmp .ne 11) 43 51 0 0, r0 43 (.aload_n 0) 44, rX 44 (.iconst 1) 45 1 0 0, rX 45 (.invokevirtual 74) 48 148 0 1375, rX 48 (.goto 8) 51 56 0 0, r0 51 (.aload_n 0) 52, r0 52 (.iload_n 3) 53, rX 53 (.invokevirtual 93) 56 150 0 1505,
  r0 56 (.ireturn) 57]
def T_r_supposed : List Row := [r0 0 (.aload_n 0) 1, r0 1 (.iconst 0) 2, rX 2 (.putfield 68) 5 9 0 1200, r0 5 (.aload_n 0) 6, r0 6 (.aload_n 0) 7, r0 7 (.iload_n 2) 8, rX 8 (.invokevirtual 314) 11 187 0 1532, rX 11 (.invokevirtual 416) 14 238 0 1718,
  r0 14 (.istore_n 3) 15, r0 15 (.iload_n 3) 16, rX 16 (.ifCond .le 9) 19 25 0 0, r0 19 (.aload_n 0) 20, r0 20 (.iload_n 3) 21, rX 21 (.invokevirtual 74) 24 148 0 1375, r0 24 (.ireturn) 25, r0 25 (.iload_n 1) 26,
  rX 26 (.ifCond .lt 12) 29 38 0 0, r0 29 (.aload_n 0) 30, r0 30 (.iload_n 1) 31, rX 31 (.invokevirtual 419) 34 239 0 1759, rX 34 (.iconst (-1)) 35 1 1 0, rX 35 (.if_icmp .ne 9) 38 44 0 0, r0 38 (.aload_n 0) 39, rX 39 (.iconst 1) 40 1 0 0,
  rX 40 (.invokevirtual 74) 43 148 0 1375, r0 43 (.ireturn) 44, r0 44 (.aload_n 0) 45, r0 45 (.aload_n 0) 46, rX 46 (.getfield 51) 49 9 47 1247, r0 49 (.iload_n 2) 50, r0 50 (.laload) 51, r0 51 (.l2i) 52,
  rX 52 (.invokevirtual 93) 55 150 0 1505, r0 55 (.ireturn) 56]
def T_r_puts : List Row := [r0 0 (.aload_n 0) 1, r0 1 (.lload_n 3) 2, r0 2 (.lload 5) 4, rX 4 (.invokevirtual 366) 7 155 0 1644, r0 7 (.aload_n 0) 8, rX 8 (.getfield 55) 11 9 48 1248, rX 11 (.bipush 44) 13 44 0 0, r0 13 (.iload_n 1) 14,
  r0 14 (.imul) 15, r0 15 (.iload_n 2) 16, r0 16 (.iadd) 17, r0 17 (.aload_n 0) 18, rX 18 (.getfield 86) 21 9 3 1203, r0 21 (.lastore) 22, r0 22 (.aload_n 0) 23, rX 23 (.getfield 58) 26 9 49 1249,
  rX 26 (.bipush 44) 28 44 0 0, r0 28 (.iload_n 1) 29, r0 29 (.imul) 30, r0 30 (.iload_n 2) 31, r0 31 (.iadd) 32, r0 32 (.aload_n 0) 33, rX 33 (.getfield 90) 36 9 4 1204, r0 36 (.lastore) 37,
  r0 37 (.return_) 38]
def T_r_clears : List Row := [r0 0 (.aload_n 0) 1, rX 1 (.getfield 55) 4 9 48 1248, rX 4 (.bipush 44) 6 44 0 0, r0 6 (.iload_n 1) 7, r0 7 (.imul) 8, r0 8 (.iload_n 3) 9, r0 9 (.iadd) 10, r0 10 (.laload) 11,
  r0 11 (.lstore 4) 13, r0 13 (.aload_n 0) 14, rX 14 (.getfield 58) 17 9 49 1249, rX 17 (.bipush 44) 19 44 0 0, r0 19 (.iload_n 1) 20, r0 20 (.imul) 21, r0 21 (.iload_n 3) 22, r0 22 (.iadd) 23,
  r0 23 (.laload) 24, r0 24 (.lstore 6) 26, r0 26 (.lload 4) 28, r0 28 (.lconst 0) 29, r0 29 (.lcmp) 30, rX 30 (.ifCond .ne 4) 33 34 0 0, r0 33 (.return_) 34, r0 34 (.iconst 0) 35,
  r0 35 (.istore 8) 37, rH 37 (.iload 8) 39 0 0 0 0, rX 39 (.bipush 44) 41 44 0 0, rX 41 (.if_icmp .ge 170) 44 211 0 0, r0 44 (.aload_n 0) 45, rX 45 (.getfield 55) 48 9 48 1248, rX 48 (.bipush 44) 50 44 0 0, r0 50 (.iload_n 2) 51,
  r0 51 (.imul) 52, r0 52 (.iload 8) 54, r0 54 (.iadd) 55, r0 55 (.laload) 56, r0 56 (.lstore 9) 58, r0 58 (.lload 9) 60, r0 60 (.lconst 0) 61, r0 61 (.lcmp) 62,
  rX 62 (.ifCond .ne 6) 65 68 0 0, rX 65 (.goto 140) 68 205 0 0, r0 68 (.aload_n 0) 69, rX 69 (.getfield 58) 72 9 49 1249, rX 72 (.bipush 44) 74 44 0 0, r0 74 (.iload_n 2) 75, r0 75 (.imul) 76, r0 76 (.iload 8) 78,
  r0 78 (.iadd) 79, r0 79 (.laload) 80, r0 80 (.lload 6) 82, r0 82 (.lmul) 83, r0 83 (.lload 9) 85, r0 85 (.lload 4) 87, r0 87 (.lmul) 88, r0 88 (.aload_n 0) 89,
  rX 89 (.getfield 58) 92 9 49 1249, rX 92 (.bipush 44) 94 44 0 0, r0 94 (.iload_n 2) 95, r0 95 (.imul) 96, r0 96 (.iload 8) 98, r0 98 (.iadd) 99, r0 99 (.laload) 100, r0 100 (.lload 6) 102,
  r0 102 (.lmul) 103, rX 103 (.invokestatic 82) 106 154 1 1648, r0 106 (.ldiv) 107, r0 107 (.lstore 11) 109, r0 109 (.lload 9) 111, r0 111 (.lload 4) 113, r0 113 (.lmul) 114, r0 114 (.lload 9) 116,
  r0 116 (.lload 4) 118, r0 118 (.lmul) 119, r0 119 (.aload_n 0) 120, rX 120 (.getfield 58) 123 9 49 1249, rX 123 (.bipush 44) 125 44 0 0, r0 125 (.iload_n 2) 126, r0 126 (.imul) 127, r0 127 (.iload 8) 129,
  r0 129 (.iadd) 130, r0 130 (.laload) 131, r0 131 (.lload 6) 133, r0 133 (.lmul) 134, rX 134 (.invokestatic 82) 137 154 1 1648, r0 137 (.ldiv) 138, r0 138 (.lstore 13) 140, r0 140 (.aload_n 0) 141,
  rX 141 (.getfield 58) 144 9 49 1249, rX 144 (.bipush 44) 146 44 0 0, r0 146 (.iload_n 1) 147, r0 147 (.imul) 148, r0 148 (.iload 8) 150, r0 150 (.iadd) 151, r0 151 (.laload) 152, r0 152 (.lstore 15) 154,
  r0 154 (.lload 15) 156, r0 156 (.lload 15) 158, r0 158 (.lload 11) 160, rX 160 (.invokestatic 82) 163 154 1 1648, r0 163 (.ldiv) 164, r0 164 (.lload 11) 166, r0 166 (.lmul) 167, r0 167 (.lstore 17) 169,
  r0 169 (.aload_n 0) 170, r0 170 (.iload_n 1) 171, r0 171 (.iload 8) 173, r0 173 (.aload_n 0) 174, rX 174 (.getfield 55) 177 9 48 1248, rX 177 (.bipush 44) 179 44 0 0, r0 179 (.iload_n 1) 180, r0 180 (.imul) 181,
  r0 181 (.iload 8) 183, r0 183 (.iadd) 184, r0 184 (.laload) 185, r0 185 (.lload 17) 187, r0 187 (.lload 15) 189, r0 189 (.ldiv) 190, r0 190 (.lmul) 191, r0 191 (.lload 13) 193,
  r0 193 (.lload 17) 195, r0 195 (.lload 11) 197, r0 197 (.ldiv) 198, r0 198 (.lmul) 199, r0 199 (.lsub) 200, r0 200 (.lload 17) 202, rX 202 (.invokevirtual 422) 205 243 0 1779, rX 205 (.iinc 8 1) 208 1 0 0,
  rX 208 (.goto (-171)) 211 37 0 0, r0 211 (.return_) 212]
def T_r_laysRows : List Row := [r0 0 (.aload_n 0) 1, r0 1 (.iconst 0) 2, rX 2 (.putfield 426) 5 9 51 1251, r0 5 (.aload_n 0) 6, rX 6 (.iconst 1) 7 1 0 0, rX 7 (.putfield 429) 10 9 52 1252, r0 10 (.iconst 0) 11, r0 11 (.istore_n 1) 12,
  rH 12 (.iload_n 1) 13 0 0 0 0, r0 13 (.aload_n 0) 14, rX 14 (.getfield 283) 17 9 9 1209, rX 17 (.if_icmp .ge 202) 20 219 0 0, r0 20 (.iconst 0) 21, r0 21 (.istore_n 2) 22, rH 22 (.iload_n 2) 23 0 0 0 0, rX 23 (.bipush 44) 25 44 0 0,
  rX 25 (.if_icmp .ge 74) 28 99 0 0, r0 28 (.aload_n 0) 29, r0 29 (.aload_n 0) 30, rX 30 (.getfield 426) 33 9 51 1251, r0 33 (.iload_n 2) 34, r0 34 (.iload_n 2) 35, rX 35 (.bipush 31) 37 31 0 0, rX 37 (.if_icmp .ne 17) 40 54 0 0,
  r0 40 (.aload_n 0) 41, r0 41 (.aload_n 0) 42, rX 42 (.getfield 20) 45 9 12 1212, r0 45 (.iload_n 1) 46, r0 46 (.iaload) 47, rX 47 (.invokevirtual 330) 50 199 0 1581, r0 50 (.i2l) 51, rX 51 (.goto 38) 54 89 0 0,
  r0 54 (.iload_n 2) 55, rX 55 (.bipush 31) 57 31 0 0, rX 57 (.if_icmp .ge 19) 60 76 0 0, r0 60 (.aload_n 0) 61, rX 61 (.getfield 20) 64 9 12 1212, r0 64 (.iload_n 1) 65, r0 65 (.iaload) 66, r0 66 (.iload_n 2) 67,
  rX 67 (.invokestatic 161) 70 152 1 1459, rX 70 (.ifCond .eq 18) 73 88 0 0, rX 73 (.goto 11) 76 84 0 0, r0 76 (.iload_n 2) 77, rX 77 (.bipush 32) 79 32 0 0, r0 79 (.iload_n 1) 80, r0 80 (.iadd) 81, rX 81 (.if_icmp .ne 7) 84 88 0 0,
  rX 84 (.lconst 1) 85 1 0 0, rX 85 (.goto 4) 88 89 0 0, r0 88 (.lconst 0) 89, rX 89 (.lconst 1) 90 1 0 0, rX 90 (.invokevirtual 422) 93 243 0 1779, rX 93 (.iinc 2 1) 96 1 0 0, rX 96 (.goto (-74)) 99 22 0 0, r0 99 (.iconst 0) 100,
  r0 100 (.istore_n 2) 101, rH 101 (.iload_n 2) 102 0 0 0 0, r0 102 (.aload_n 0) 103, rX 103 (.getfield 426) 106 9 51 1251, rX 106 (.if_icmp .ge 24) 109 130 0 0, r0 109 (.aload_n 0) 110, r0 110 (.aload_n 0) 111, rX 111 (.getfield 426) 114 9 51 1251,
  r0 114 (.iload_n 2) 115, r0 115 (.aload_n 0) 116, rX 116 (.getfield 61) 119 9 50 1250, r0 119 (.iload_n 2) 120, r0 120 (.iaload) 121, rX 121 (.invokevirtual 432) 124 244 0 1783, rX 124 (.iinc 2 1) 127 1 0 0, rX 127 (.goto (-26)) 130 101 0 0,
  r0 130 (.iconst 0) 131, r0 131 (.istore_n 2) 132, rH 132 (.iload_n 2) 133 0 0 0 0, rX 133 (.bipush 31) 135 31 0 0, rX 135 (.if_icmp .ge 28) 138 163 0 0, r0 138 (.aload_n 0) 139, rX 139 (.getfield 55) 142 9 48 1248, rX 142 (.bipush 44) 144 44 0 0,
  r0 144 (.aload_n 0) 145, rX 145 (.getfield 426) 148 9 51 1251, r0 148 (.imul) 149, r0 149 (.iload_n 2) 150, r0 150 (.iadd) 151, r0 151 (.laload) 152, r0 152 (.lconst 0) 153, r0 153 (.lcmp) 154,
  rX 154 (.ifCond .ne 9) 157 163 0 0, rX 157 (.iinc 2 1) 160 1 0 0, rX 160 (.goto (-28)) 163 132 0 0, r0 163 (.iload_n 2) 164, rX 164 (.bipush 31) 166 31 0 0, rX 166 (.if_icmp .ne 42) 169 208 0 0, r0 169 (.aload_n 0) 170, r0 170 (.aload_n 0) 171,
  rX 171 (.getfield 429) 174 9 52 1252, rX 174 (.ifCond .eq 27) 177 201 0 0, r0 177 (.aload_n 0) 178, rX 178 (.getfield 55) 181 9 48 1248, rX 181 (.bipush 44) 183 44 0 0, r0 183 (.aload_n 0) 184, rX 184 (.getfield 426) 187 9 51 1251, r0 187 (.imul) 188,
  rX 188 (.bipush 31) 190 31 0 0, r0 190 (.iadd) 191, r0 191 (.laload) 192, r0 192 (.lconst 0) 193, r0 193 (.lcmp) 194, rX 194 (.ifCond .ne 7) 197 201 0 0, rX 197 (.iconst 1) 198 1 0 0, rX 198 (.goto 4) 201 202 0 0,
  r0 201 (.iconst 0) 202, rX 202 (.putfield 429) 205 9 52 1252, rX 205 (.goto 8) 208 213 0 0, r0 208 (.aload_n 0) 209, r0 209 (.iload_n 2) 210, rX 210 (.invokevirtual 436) 213 246 0 1787, rX 213 (.iinc 1 1) 216 1 0 0, rX 216 (.goto (-204)) 219 12 0 0,
  r0 219 (.return_) 220]
def T_r_laysRow : List Row := [r0 0 (.aload_n 0) 1, rX 1 (.getfield 55) 4 9 48 1248, rX 4 (.bipush 44) 6 44 0 0, r0 6 (.aload_n 0) 7, rX 7 (.getfield 426) 10 9 51 1251, r0 10 (.imul) 11, r0 11 (.iload_n 1) 12, r0 12 (.iadd) 13,
  r0 13 (.laload) 14, r0 14 (.lstore_n 2) 15, r0 15 (.aload_n 0) 16, rX 16 (.getfield 58) 19 9 49 1249, rX 19 (.bipush 44) 21 44 0 0, r0 21 (.aload_n 0) 22, rX 22 (.getfield 426) 25 9 51 1251, r0 25 (.imul) 26,
  r0 26 (.iload_n 1) 27, r0 27 (.iadd) 28, r0 28 (.laload) 29, r0 29 (.lstore 4) 31, r0 31 (.lload_n 2) 32, r0 32 (.lconst 0) 33, r0 33 (.lcmp) 34, rX 34 (.ifCond .ge 9) 37 43 0 0,
  rX 37 (.ldc2_w 439) 40 1 1 1791, rX 40 (.goto 4) 43 44 0 0, rX 43 (.lconst 1) 44 1 0 0, r0 44 (.lstore 6) 46, r0 46 (.iconst 0) 47, r0 47 (.istore 8) 49, rH 49 (.iload 8) 51 0 0 0 0, rX 51 (.bipush 44) 53 44 0 0,
  rX 53 (.if_icmp .ge 60) 56 113 0 0, r0 56 (.aload_n 0) 57, r0 57 (.aload_n 0) 58, rX 58 (.getfield 426) 61 9 51 1251, r0 61 (.iload 8) 63, r0 63 (.aload_n 0) 64, rX 64 (.getfield 55) 67 9 48 1248, rX 67 (.bipush 44) 69 44 0 0,
  r0 69 (.aload_n 0) 70, rX 70 (.getfield 426) 73 9 51 1251, r0 73 (.imul) 74, r0 74 (.iload 8) 76, r0 76 (.iadd) 77, r0 77 (.laload) 78, r0 78 (.lload 4) 80, r0 80 (.lmul) 81,
  r0 81 (.lload 6) 83, r0 83 (.lmul) 84, r0 84 (.aload_n 0) 85, rX 85 (.getfield 58) 88 9 49 1249, rX 88 (.bipush 44) 90 44 0 0, r0 90 (.aload_n 0) 91, rX 91 (.getfield 426) 94 9 51 1251, r0 94 (.imul) 95,
  r0 95 (.iload 8) 97, r0 97 (.iadd) 98, r0 98 (.laload) 99, r0 99 (.lload_n 2) 100, r0 100 (.lmul) 101, r0 101 (.lload 6) 103, r0 103 (.lmul) 104, rX 104 (.invokevirtual 422) 107 243 0 1779,
  rX 107 (.iinc 8 1) 110 1 0 0, rX 110 (.goto (-61)) 113 49 0 0, r0 113 (.aload_n 0) 114, rX 114 (.getfield 61) 117 9 50 1250, r0 117 (.aload_n 0) 118, rX 118 (.getfield 426) 121 9 51 1251, r0 121 (.iload_n 1) 122, r0 122 (.iastore) 123,
  r0 123 (.iconst 0) 124, r0 124 (.istore 8) 126, rH 126 (.iload 8) 128 0 0 0 0, r0 128 (.aload_n 0) 129, rX 129 (.getfield 426) 132 9 51 1251, rX 132 (.if_icmp .ge 20) 135 152 0 0, r0 135 (.aload_n 0) 136, r0 136 (.iload 8) 138,
  r0 138 (.aload_n 0) 139, rX 139 (.getfield 426) 142 9 51 1251, r0 142 (.iload_n 1) 143, rX 143 (.invokevirtual 432) 146 244 0 1783, rX 146 (.iinc 8 1) 149 1 0 0, rX 149 (.goto (-23)) 152 126 0 0, r0 152 (.aload_n 0) 153, r0 153 (.dup) 154,
  rX 154 (.getfield 426) 157 9 51 1251, rX 157 (.iconst 1) 158 1 0 0, r0 158 (.iadd) 159, rX 159 (.putfield 426) 162 9 51 1251, r0 162 (.return_) 163]
def T_r_rowOf : List Row := [r0 0 (.iconst 0) 1, r0 1 (.istore_n 2) 2, rH 2 (.iload_n 2) 3 0 0 0 0, r0 3 (.aload_n 0) 4, rX 4 (.getfield 426) 7 9 51 1251, rX 7 (.if_icmp .ge 83) 10 90 0 0, r0 10 (.aload_n 0) 11, rX 11 (.getfield 61) 14 9 50 1250,
  r0 14 (.iload_n 2) 15, r0 15 (.iaload) 16, r0 16 (.iload_n 1) 17, rX 17 (.if_icmp .eq 6) 20 23 0 0, rX 20 (.goto 64) 23 84 0 0, rX 23 (.iconst 1) 24 1 0 0, r0 24 (.istore_n 3) 25, r0 25 (.iconst 0) 26,
  r0 26 (.istore 4) 28, rH 28 (.iload 4) 30 0 0 0 0, rX 30 (.bipush 31) 32 31 0 0, rX 32 (.if_icmp .ge 42) 35 74 0 0, r0 35 (.iload_n 3) 36, rX 36 (.ifCond .eq 30) 39 66 0 0, r0 39 (.iload 4) 41, r0 41 (.iload_n 1) 42,
  rX 42 (.if_icmp .eq 20) 45 62 0 0, r0 45 (.aload_n 0) 46, rX 46 (.getfield 55) 49 9 48 1248, rX 49 (.bipush 44) 51 44 0 0, r0 51 (.iload_n 2) 52, r0 52 (.imul) 53, r0 53 (.iload 4) 55, r0 55 (.iadd) 56,
  r0 56 (.laload) 57, r0 57 (.lconst 0) 58, r0 58 (.lcmp) 59, rX 59 (.ifCond .ne 7) 62 66 0 0, rX 62 (.iconst 1) 63 1 0 0, rX 63 (.goto 4) 66 67 0 0, r0 66 (.iconst 0) 67, r0 67 (.istore_n 3) 68,
  rX 68 (.iinc 4 1) 71 1 0 0, rX 71 (.goto (-43)) 74 28 0 0, r0 74 (.iload_n 3) 75, rX 75 (.ifCond .eq 7) 78 82 0 0, r0 78 (.iload_n 2) 79, rX 79 (.goto 4) 82 83 0 0, rX 82 (.iconst (-1)) 83 1 1 0, r0 83 (.ireturn) 84,
  rX 84 (.iinc 2 1) 87 1 0 0, rX 87 (.goto (-85)) 90 2 0 0, rX 90 (.iconst (-1)) 91 1 1 0, r0 91 (.ireturn) 92]
def T_r_mask : List Row := [r0 0 (.aload_n 0) 1, r0 1 (.iconst 0) 2, rX 2 (.putfield 68) 5 9 0 1200, r0 5 (.aload_n 0) 6, rX 6 (.getfield 272) 9 9 26 1226, rX 9 (.ifCond .eq 28) 12 37 0 0, r0 12 (.iload_n 1) 13, rX 13 (.ifCond .lt 24) 16 37 0 0,
  r0 16 (.iload_n 1) 17, r0 17 (.aload_n 0) 18, rX 18 (.getfield 283) 21 9 9 1209, rX 21 (.if_icmp .ge 16) 24 37 0 0, r0 24 (.aload_n 0) 25, r0 25 (.aload_n 0) 26, rX 26 (.getfield 20) 29 9 12 1212, r0 29 (.iload_n 1) 30,
  r0 30 (.iaload) 31, rX 31 (.invokevirtual 93) 34 150 0 1505, rX 34 (.goto 8) 37 42 0 0, r0 37 (.aload_n 0) 38, rX 38 (.iconst 1) 39 1 0 0, rX 39 (.invokevirtual 74) 42 148 0 1375, r0 42 (.ireturn) 43]
def T_r_rank : List Row := [r0 0 (.aload_n 0) 1, r0 1 (.iconst 0) 2, rX 2 (.putfield 68) 5 9 0 1200, r0 5 (.aload_n 0) 6, rX 6 (.getfield 272) 9 9 26 1226, rX 9 (.ifCond .ne 9) 12 18 0 0, r0 12 (.aload_n 0) 13, rX 13 (.iconst 1) 14 1 0 0,
  rX 14 (.invokevirtual 74) 17 148 0 1375, r0 17 (.ireturn) 18, r0 18 (.aload_n 0) 19, rX 19 (.invokevirtual 441) 22 245 0 1775, r0 22 (.aload_n 0) 23, r0 23 (.aload_n 0) 24, rX 24 (.getfield 426) 27 9 51 1251, rX 27 (.invokevirtual 93) 30 150 0 1505,
  r0 30 (.ireturn) 31]
def T_r_told : List Row := [r0 0 (.aload_n 0) 1, r0 1 (.iconst 0) 2, rX 2 (.putfield 68) 5 9 0 1200, r0 5 (.aload_n 0) 6, rX 6 (.getfield 272) 9 9 26 1226, rX 9 (.ifCond .ne 9) 12 18 0 0, r0 12 (.aload_n 0) 13, rX 13 (.iconst 1) 14 1 0 0,
  rX 14 (.invokevirtual 74) 17 148 0 1375, r0 17 (.ireturn) 18, r0 18 (.aload_n 0) 19, rX 19 (.invokevirtual 441) 22 245 0 1775, r0 22 (.iconst 0) 23, r0 23 (.istore_n 1) 24, r0 24 (.iconst 0) 25, r0 25 (.istore_n 2) 26,
  rH 26 (.iload_n 2) 27 0 0 0 0, r0 27 (.aload_n 0) 28, rX 28 (.getfield 269) 31 9 5 1205, rX 31 (.if_icmp .ge 24) 34 55 0 0, r0 34 (.aload_n 0) 35, r0 35 (.iload_n 2) 36, rX 36 (.invokevirtual 444) 39 247 0 1796, rX 39 (.iconst (-1)) 40 1 1 0,
  rX 40 (.if_icmp .eq 9) 43 49 0 0, r0 43 (.iload_n 1) 44, rX 44 (.iconst 1) 45 1 0 0, r0 45 (.iload_n 2) 46, r0 46 (.ishl) 47, r0 47 (.ior) 48, r0 48 (.istore_n 1) 49, rX 49 (.iinc 2 1) 52 1 0 0,
  rX 52 (.goto (-26)) 55 26 0 0, r0 55 (.aload_n 0) 56, r0 56 (.iload_n 1) 57, rX 57 (.invokevirtual 93) 60 150 0 1505, r0 60 (.ireturn) 61]
def T_r_solved : List Row := [r0 0 (.aload_n 0) 1, r0 1 (.iconst 0) 2, rX 2 (.putfield 68) 5 9 0 1200, r0 5 (.aload_n 0) 6, r0 6 (.iload_n 1) 7, rX 7 (.invokevirtual 314) 10 187 0 1532, rX 10 (.ifCond .ne 9) 13 19 0 0, r0 13 (.aload_n 0) 14,
  rX 14 (.iconst 1) 15 1 0 0, rX 15 (.invokevirtual 363) 18 149 0 1629, r0 18 (.lreturn) 19, r0 19 (.aload_n 0) 20, rX 20 (.invokevirtual 441) 23 245 0 1775, r0 23 (.aload_n 0) 24, r0 24 (.iload_n 1) 25, rX 25 (.invokevirtual 444) 28 247 0 1796,
  r0 28 (.istore_n 3) 29, r0 29 (.iload_n 3) 30, rX 30 (.iconst (-1)) 31 1 1 0, rX 31 (.if_icmp .ne 9) 34 40 0 0, r0 34 (.aload_n 0) 35, rX 35 (.iconst 5) 36 5 0 0, rX 36 (.invokevirtual 363) 39 149 0 1629, r0 39 (.lreturn) 40,
  r0 40 (.aload_n 0) 41, r0 41 (.aload_n 0) 42, rX 42 (.getfield 55) 45 9 48 1248, rX 45 (.bipush 44) 47 44 0 0, r0 47 (.iload_n 3) 48, r0 48 (.imul) 49, rX 49 (.bipush 31) 51 31 0 0, r0 51 (.iadd) 52,
  r0 52 (.laload) 53, r0 53 (.aload_n 0) 54, rX 54 (.getfield 58) 57 9 49 1249, rX 57 (.bipush 44) 59 44 0 0, r0 59 (.iload_n 3) 60, r0 60 (.imul) 61, rX 61 (.bipush 31) 63 31 0 0, r0 63 (.iadd) 64,
  r0 64 (.laload) 65, rX 65 (.invokevirtual 366) 68 155 0 1644, r0 68 (.aload_n 0) 69, r0 69 (.iload_n 2) 70, rX 70 (.invokevirtual 370) 73 156 0 1651, r0 73 (.lreturn) 74]
def T_r_factor : List Row := [r0 0 (.aload_n 0) 1, r0 1 (.iconst 0) 2, rX 2 (.putfield 68) 5 9 0 1200, r0 5 (.aload_n 0) 6, r0 6 (.iload_n 1) 7, rX 7 (.invokevirtual 314) 10 187 0 1532, rX 10 (.ifCond .eq 15) 13 25 0 0, r0 13 (.iload_n 2) 14,
  rX 14 (.ifCond .lt 11) 17 25 0 0, r0 17 (.iload_n 2) 18, r0 18 (.aload_n 0) 19, rX 19 (.getfield 283) 22 9 9 1209, rX 22 (.if_icmp .lt 9) 25 31 0 0, r0 25 (.aload_n 0) 26, rX 26 (.iconst 1) 27 1 0 0, rX 27 (.invokevirtual 363) 30 149 0 1629,
  r0 30 (.lreturn) 31, r0 31 (.aload_n 0) 32, rX 32 (.invokevirtual 441) 35 245 0 1775, r0 35 (.aload_n 0) 36, r0 36 (.iload_n 1) 37, rX 37 (.invokevirtual 444) 40 247 0 1796, r0 40 (.istore 4) 42, r0 42 (.iload 4) 44,
  rX 44 (.iconst (-1)) 45 1 1 0, rX 45 (.if_icmp .ne 9) 48 54 0 0, r0 48 (.aload_n 0) 49, rX 49 (.iconst 5) 50 5 0 0, rX 50 (.invokevirtual 363) 53 149 0 1629, r0 53 (.lreturn) 54, r0 54 (.aload_n 0) 55, r0 55 (.aload_n 0) 56,
  rX 56 (.getfield 55) 59 9 48 1248, rX 59 (.bipush 44) 61 44 0 0, r0 61 (.iload 4) 63, r0 63 (.imul) 64, rX 64 (.bipush 32) 66 32 0 0, r0 66 (.iadd) 67, r0 67 (.iload_n 2) 68, r0 68 (.iadd) 69,
  r0 69 (.laload) 70, r0 70 (.aload_n 0) 71, rX 71 (.getfield 58) 74 9 49 1249, rX 74 (.bipush 44) 76 44 0 0, r0 76 (.iload 4) 78, r0 78 (.imul) 79, rX 79 (.bipush 32) 81 32 0 0, r0 81 (.iadd) 82,
  r0 82 (.iload_n 2) 83, r0 83 (.iadd) 84, r0 84 (.laload) 85, rX 85 (.invokevirtual 366) 88 155 0 1644, r0 88 (.aload_n 0) 89, r0 89 (.iload_n 3) 90, rX 90 (.invokevirtual 370) 93 156 0 1651, r0 93 (.lreturn) 94]
def T_r_squaresOf : List Row := [r0 0 (.aload_n 0) 1, r0 1 (.lconst 0) 2, rX 2 (.lconst 1) 3 1 0 0, rX 3 (.invokevirtual 366) 6 155 0 1644, r0 6 (.iconst 0) 7, r0 7 (.istore_n 2) 8, rH 8 (.iload_n 2) 9 0 0 0 0, r0 9 (.aload_n 0) 10,
  rX 10 (.getfield 283) 13 9 9 1209, rX 13 (.if_icmp .ge 115) 16 128 0 0, r0 16 (.aload_n 0) 17, rX 17 (.getfield 55) 20 9 48 1248, rX 20 (.bipush 44) 22 44 0 0, r0 22 (.iload_n 1) 23, r0 23 (.imul) 24, rX 24 (.bipush 32) 26 32 0 0,
  r0 26 (.iadd) 27, r0 27 (.iload_n 2) 28, r0 28 (.iadd) 29, r0 29 (.laload) 30, r0 30 (.aload_n 0) 31, rX 31 (.getfield 55) 34 9 48 1248, rX 34 (.bipush 44) 36 44 0 0, r0 36 (.iload_n 1) 37,
  r0 37 (.imul) 38, rX 38 (.bipush 32) 40 32 0 0, r0 40 (.iadd) 41, r0 41 (.iload_n 2) 42, r0 42 (.iadd) 43, r0 43 (.laload) 44, r0 44 (.lmul) 45, r0 45 (.lstore_n 3) 46,
  r0 46 (.aload_n 0) 47, rX 47 (.getfield 58) 50 9 49 1249, rX 50 (.bipush 44) 52 44 0 0, r0 52 (.iload_n 1) 53, r0 53 (.imul) 54, rX 54 (.bipush 32) 56 32 0 0, r0 56 (.iadd) 57, r0 57 (.iload_n 2) 58,
  r0 58 (.iadd) 59, r0 59 (.laload) 60, r0 60 (.aload_n 0) 61, rX 61 (.getfield 58) 64 9 49 1249, rX 64 (.bipush 44) 66 44 0 0, r0 66 (.iload_n 1) 67, r0 67 (.imul) 68, rX 68 (.bipush 32) 70 32 0 0,
  r0 70 (.iadd) 71, r0 71 (.iload_n 2) 72, r0 72 (.iadd) 73, r0 73 (.laload) 74, r0 74 (.lmul) 75, r0 75 (.lstore 5) 77, r0 77 (.aload_n 0) 78, rX 78 (.getfield 90) 81 9 4 1204,
  r0 81 (.aload_n 0) 82, rX 82 (.getfield 90) 85 9 4 1204, r0 85 (.lload 5) 87, rX 87 (.invokestatic 82) 90 154 1 1648, r0 90 (.ldiv) 91, r0 91 (.lload 5) 93, r0 93 (.lmul) 94, r0 94 (.lstore 7) 96,
  r0 96 (.aload_n 0) 97, r0 97 (.aload_n 0) 98, rX 98 (.getfield 86) 101 9 3 1203, r0 101 (.lload 7) 103, r0 103 (.aload_n 0) 104, rX 104 (.getfield 90) 107 9 4 1204, r0 107 (.ldiv) 108, r0 108 (.lmul) 109,
  r0 109 (.lload_n 3) 110, r0 110 (.lload 7) 112, r0 112 (.lload 5) 114, r0 114 (.ldiv) 115, r0 115 (.lmul) 116, r0 116 (.ladd) 117, r0 117 (.lload 7) 119, rX 119 (.invokevirtual 366) 122 155 0 1644,
  rX 122 (.iinc 2 1) 125 1 0 0, rX 125 (.goto (-117)) 128 8 0 0, r0 128 (.return_) 129]
def T_r_shareBy : List Row := [r0 0 (.aload_n 0) 1, r0 1 (.iconst 0) 2, rX 2 (.putfield 68) 5 9 0 1200, r0 5 (.aload_n 0) 6, r0 6 (.iload_n 1) 7, rX 7 (.invokevirtual 314) 10 187 0 1532, rX 10 (.ifCond .ne 10) 13 20 0 0, r0 13 (.aload_n 0) 14,
  rX 14 (.iconst 1) 15 1 0 0, rX 15 (.invokevirtual 74) 18 148 0 1375, r0 18 (.i2l) 19, r0 19 (.lreturn) 20, r0 20 (.aload_n 0) 21, rX 21 (.invokevirtual 441) 24 245 0 1775, r0 24 (.aload_n 0) 25, r0 25 (.iload_n 1) 26,
  rX 26 (.invokevirtual 444) 29 247 0 1796, r0 29 (.istore_n 3) 30, r0 30 (.iload_n 3) 31, rX 31 (.iconst (-1)) 32 1 1 0, rX 32 (.if_icmp .ne 10) 35 42 0 0, r0 35 (.aload_n 0) 36, rX 36 (.iconst 5) 37 5 0 0, rX 37 (.invokevirtual 74) 40 148 0 1375,
  r0 40 (.i2l) 41, r0 41 (.lreturn) 42, r0 42 (.aload_n 0) 43, r0 43 (.iload_n 3) 44, rX 44 (.invokevirtual 447) 47 253 0 1812, r0 47 (.aload_n 0) 48, r0 48 (.iload_n 2) 49, rX 49 (.invokevirtual 370) 52 156 0 1651,
  r0 52 (.lreturn) 53]
def T_r_fewer : List Row := [r0 0 (.aload_n 0) 1, r0 1 (.iconst 0) 2, rX 2 (.putfield 68) 5 9 0 1200, r0 5 (.aload_n 0) 6, rX 6 (.getfield 272) 9 9 26 1226, rX 9 (.ifCond .ne 9) 12 18 0 0, r0 12 (.aload_n 0) 13, rX 13 (.iconst 1) 14 1 0 0,
  rX 14 (.invokevirtual 74) 17 148 0 1375, r0 17 (.ireturn) 18, r0 18 (.aload_n 0) 19, rX 19 (.invokevirtual 441) 22 245 0 1775, r0 22 (.iconst 0) 23, r0 23 (.istore_n 1) 24, r0 24 (.iconst 0) 25, r0 25 (.istore_n 2) 26,
  rH 26 (.iload_n 2) 27 0 0 0 0, r0 27 (.aload_n 0) 28, rX 28 (.getfield 269) 31 9 5 1205, rX 31 (.if_icmp .ge 72) 34 103 0 0, r0 34 (.aload_n 0) 35, r0 35 (.iload_n 2) 36, rX 36 (.invokevirtual 444) 39 247 0 1796, r0 39 (.istore_n 3) 40,
  r0 40 (.iload_n 3) 41, rX 41 (.iconst (-1)) 42 1 1 0, rX 42 (.if_icmp .ne 6) 45 48 0 0, rX 45 (.goto 52) 48 97 0 0, r0 48 (.aload_n 0) 49, r0 49 (.iload_n 3) 50, rX 50 (.invokevirtual 447) 53 253 0 1812, r0 53 (.aload_n 0) 54,
  rX 54 (.getfield 86) 57 9 3 1203, r0 57 (.aload_n 0) 58, rX 58 (.getfield 269) 61 9 5 1205, r0 61 (.i2l) 62, rX 62 (.lconst 1) 63 1 0 0, r0 63 (.ladd) 64, r0 64 (.aload_n 0) 65, rX 65 (.getfield 269) 68 9 5 1205,
  r0 68 (.i2l) 69, rX 69 (.lconst 1) 70 1 0 0, r0 70 (.ladd) 71, r0 71 (.lmul) 72, r0 72 (.lmul) 73, rX 73 (.ldc2_w 348) 76 4 0 1638, r0 76 (.aload_n 0) 77, rX 77 (.getfield 269) 80 9 5 1205,
  r0 80 (.i2l) 81, r0 81 (.lmul) 82, r0 82 (.aload_n 0) 83, rX 83 (.getfield 90) 86 9 4 1204, r0 86 (.lmul) 87, r0 87 (.lcmp) 88, rX 88 (.ifCond .ge 9) 91 97 0 0, r0 91 (.iload_n 1) 92,
  rX 92 (.iconst 1) 93 1 0 0, r0 93 (.iload_n 2) 94, r0 94 (.ishl) 95, r0 95 (.ior) 96, r0 96 (.istore_n 1) 97, rX 97 (.iinc 2 1) 100 1 0 0, rX 100 (.goto (-74)) 103 26 0 0, r0 103 (.aload_n 0) 104,
  r0 104 (.iload_n 1) 105, rX 105 (.invokevirtual 93) 108 150 0 1505, r0 108 (.ireturn) 109]
def T_r_agree : List Row := [r0 0 (.aload_n 0) 1, r0 1 (.iconst 0) 2, rX 2 (.putfield 68) 5 9 0 1200, r0 5 (.aload_n 0) 6, rX 6 (.getfield 272) 9 9 26 1226, rX 9 (.ifCond .ne 9) 12 18 0 0, r0 12 (.aload_n 0) 13, rX 13 (.iconst 1) 14 1 0 0,
  rX 14 (.invokevirtual 74) 17 148 0 1375, r0 17 (.ireturn) 18, r0 18 (.aload_n 0) 19, rX 19 (.invokevirtual 441) 22 245 0 1775, r0 22 (.aload_n 0) 23, r0 23 (.aload_n 0) 24, rX 24 (.getfield 429) 27 9 52 1252, rX 27 (.ifCond .eq 7) 30 34 0 0,
  rX 30 (.iconst 1) 31 1 0 0, rX 31 (.goto 4) 34 35 0 0, r0 34 (.iconst 0) 35, rX 35 (.invokevirtual 93) 38 150 0 1505, r0 38 (.ireturn) 39]
def T_r_movesTo : List Row := [r0 0 (.iload_n 1) 1, rX 1 (.iconst (-1)) 2 1 1 0, rX 2 (.if_icmp .ne 7) 5 9 0 0, r0 5 (.iconst 0) 6, rX 6 (.goto 9) 9 15 0 0, r0 9 (.aload_n 0) 10, rX 10 (.getfield 20) 13 9 12 1212, r0 13 (.iload_n 1) 14,
  r0 14 (.iaload) 15, r0 15 (.aload_n 0) 16, rX 16 (.getfield 20) 19 9 12 1212, r0 19 (.iload_n 2) 20, r0 20 (.iaload) 21, r0 21 (.ixor) 22, rX 22 (.invokestatic 311) 25 153 1 1525, r0 25 (.ireturn) 26]
def T_r_goes : List Row := [r0 0 (.iload_n 2) 1, rX 1 (.ifCond .ne 7) 4 8 0 0, r0 4 (.iconst 0) 5, rX 5 (.goto 6) 8 11 0 0, rX 8 (.ldc_w 450) 11 2147483647 0 1836, r0 11 (.istore_n 3) 12, r0 12 (.iconst 0) 13, r0 13 (.istore 4) 15,
  rH 15 (.iload 4) 17 0 0 0 0, r0 17 (.aload_n 0) 18, rX 18 (.getfield 283) 21 9 9 1209, rX 21 (.if_icmp .ge 57) 24 78 0 0, r0 24 (.iload_n 2) 25, r0 25 (.iload 4) 27, rX 27 (.invokestatic 161) 30 152 1 1459, rX 30 (.ifCond .ne 6) 33 36 0 0,
  rX 33 (.goto 39) 36 72 0 0, r0 36 (.aload_n 0) 37, r0 37 (.iload_n 1) 38, r0 38 (.iload 4) 40, rX 40 (.invokevirtual 451) 43 257 0 1837, r0 43 (.aload_n 0) 44, rX 44 (.getfield 65) 47 9 53 1253, rX 47 (.bipush 12) 49 12 0 0,
  r0 49 (.iload_n 2) 50, rX 50 (.iconst 1) 51 1 0 0, r0 51 (.iload 4) 53, r0 53 (.ishl) 54, r0 54 (.ixor) 55, r0 55 (.imul) 56, r0 56 (.iload 4) 58, r0 58 (.iadd) 59,
  r0 59 (.iaload) 60, r0 60 (.iadd) 61, r0 61 (.istore 5) 63, r0 63 (.iload 5) 65, r0 65 (.iload_n 3) 66, rX 66 (.if_icmp .ge 6) 69 72 0 0, r0 69 (.iload 5) 71, r0 71 (.istore_n 3) 72,
  rX 72 (.iinc 4 1) 75 1 0 0, rX 75 (.goto (-60)) 78 15 0 0, r0 78 (.iload_n 3) 79, r0 79 (.ireturn) 80]
def T_r_laysTours : List Row := [r0 0 (.iconst 0) 1, r0 1 (.istore_n 1) 2, rH 2 (.iload_n 1) 3 0 0 0 0, rX 3 (.iconst 1) 4 1 0 0, r0 4 (.aload_n 0) 5, rX 5 (.getfield 283) 8 9 9 1209, r0 8 (.ishl) 9, rX 9 (.if_icmp .ge 50) 12 59 0 0,
  r0 12 (.iconst 0) 13, r0 13 (.istore_n 2) 14, rH 14 (.iload_n 2) 15 0 0 0 0, r0 15 (.aload_n 0) 16, rX 16 (.getfield 283) 19 9 9 1209, rX 19 (.if_icmp .ge 34) 22 53 0 0, r0 22 (.iload_n 1) 23, r0 23 (.iload_n 2) 24,
  rX 24 (.invokestatic 161) 27 152 1 1459, rX 27 (.ifCond .ne 20) 30 47 0 0, r0 30 (.aload_n 0) 31, rX 31 (.getfield 65) 34 9 53 1253, rX 34 (.bipush 12) 36 12 0 0, r0 36 (.iload_n 1) 37, r0 37 (.imul) 38, r0 38 (.iload_n 2) 39,
  r0 39 (.iadd) 40, r0 40 (.aload_n 0) 41, r0 41 (.iload_n 2) 42, r0 42 (.iload_n 1) 43, rX 43 (.invokevirtual 454) 46 258 0 1832, r0 46 (.iastore) 47, rX 47 (.iinc 2 1) 50 1 0 0, rX 50 (.goto (-36)) 53 14 0 0,
  rX 53 (.iinc 1 1) 56 1 0 0, rX 56 (.goto (-54)) 59 2 0 0, r0 59 (.return_) 60]
def T_r_tour : List Row := [r0 0 (.aload_n 0) 1, r0 1 (.iconst 0) 2, rX 2 (.putfield 68) 5 9 0 1200, r0 5 (.aload_n 0) 6, rX 6 (.getfield 272) 9 9 26 1226, rX 9 (.ifCond .ne 9) 12 18 0 0, r0 12 (.aload_n 0) 13, rX 13 (.iconst 1) 14 1 0 0,
  rX 14 (.invokevirtual 74) 17 148 0 1375, r0 17 (.ireturn) 18, r0 18 (.aload_n 0) 19, rX 19 (.invokevirtual 457) 22 259 0 1828, r0 22 (.aload_n 0) 23, r0 23 (.aload_n 0) 24, rX 24 (.iconst (-1)) 25 1 1 0, rX 25 (.iconst 1) 26 1 0 0,
  r0 26 (.aload_n 0) 27, rX 27 (.getfield 283) 30 9 9 1209, r0 30 (.ishl) 31, rX 31 (.iconst 1) 32 1 0 0, r0 32 (.isub) 33, rX 33 (.invokevirtual 454) 36 258 0 1832, rX 36 (.invokevirtual 93) 39 150 0 1505, r0 39 (.ireturn) 40]
def T_r_tourAt : List Row := [r0 0 (.aload_n 0) 1, r0 1 (.iconst 0) 2, rX 2 (.putfield 68) 5 9 0 1200, r0 5 (.aload_n 0) 6, rX 6 (.getfield 272) 9 9 26 1226, rX 9 (.ifCond .eq 15) 12 24 0 0, r0 12 (.iload_n 1) 13, rX 13 (.ifCond .lt 11) 16 24 0 0,
  r0 16 (.iload_n 1) 17, r0 17 (.aload_n 0) 18, rX 18 (.getfield 283) 21 9 9 1209, rX 21 (.if_icmp .lt 9) 24 30 0 0, r0 24 (.aload_n 0) 25, rX 25 (.iconst 1) 26 1 0 0, rX 26 (.invokevirtual 74) 29 148 0 1375, r0 29 (.ireturn) 30,
  r0 30 (.aload_n 0) 31, rX 31 (.invokevirtual 457) 34 259 0 1828, rX 34 (.iconst (-1)) 35 1 1 0, r0 35 (.istore_n 2) 36, rX 36 (.iconst 1) 37 1 0 0, r0 37 (.aload_n 0) 38, rX 38 (.getfield 283) 41 9 9 1209, r0 41 (.ishl) 42,
  rX 42 (.iconst 1) 43 1 0 0, r0 43 (.isub) 44, r0 44 (.istore_n 3) 45, r0 45 (.iconst 0) 46, r0 46 (.istore 4) 48, rH 48 (.iload 4) 50 0 0 0 0, r0 50 (.iload_n 1) 51, rX 51 (.if_icmp .gt 75) 54 126 0 0,
  r0 54 (.aload_n 0) 55, r0 55 (.iload_n 2) 56, r0 56 (.iload_n 3) 57, rX 57 (.invokevirtual 454) 60 258 0 1832, r0 60 (.istore 5) 62, r0 62 (.iconst 0) 63, r0 63 (.istore 6) 65, rH 65 (.iload_n 3) 66 0 0 0 0,
  r0 66 (.iload 6) 68, rX 68 (.invokestatic 161) 71 152 1 1459, rX 71 (.ifCond .eq 33) 74 104 0 0, r0 74 (.aload_n 0) 75, r0 75 (.iload_n 2) 76, r0 76 (.iload 6) 78, rX 78 (.invokevirtual 451) 81 257 0 1837, r0 81 (.aload_n 0) 82,
  rX 82 (.getfield 65) 85 9 53 1253, rX 85 (.bipush 12) 87 12 0 0, r0 87 (.iload_n 3) 88, rX 88 (.iconst 1) 89 1 0 0, r0 89 (.iload 6) 91, r0 91 (.ishl) 92, r0 92 (.ixor) 93, r0 93 (.imul) 94,
  r0 94 (.iload 6) 96, r0 96 (.iadd) 97, r0 97 (.iaload) 98, r0 98 (.iadd) 99, r0 99 (.iload 5) 101, rX 101 (.if_icmp .le 9) 104 110 0 0, rX 104 (.iinc 6 1) 107 1 0 0, rX 107 (.goto (-42)) 110 65 0 0,
  r0 110 (.iload_n 3) 111, rX 111 (.iconst 1) 112 1 0 0, r0 112 (.iload 6) 114, r0 114 (.ishl) 115, r0 115 (.ixor) 116, r0 116 (.istore_n 3) 117, r0 117 (.iload 6) 119, r0 119 (.istore_n 2) 120,
  rX 120 (.iinc 4 1) 123 1 0 0, rX 123 (.goto (-75)) 126 48 0 0, r0 126 (.aload_n 0) 127, r0 127 (.iload_n 2) 128, rX 128 (.invokevirtual 93) 131 150 0 1505, r0 131 (.ireturn) 132]
def T_r_sign : List Row := [r0 0 (.aload_n 0) 1, r0 1 (.iconst 0) 2, rX 2 (.putfield 68) 5 9 0 1200, r0 5 (.iload_n 1) 6, r0 6 (.iconst 0) 7, rX 7 (.bipush 9) 9 9 0 0, rX 9 (.invokestatic 114) 12 151 1 1391, rX 12 (.ifCond .eq 29) 15 41 0 0,
  r0 15 (.iload_n 2) 16, r0 16 (.iconst 0) 17, rX 17 (.iconst 1) 18 1 0 0, r0 18 (.iload_n 1) 19, r0 19 (.ishl) 20, rX 20 (.iconst 1) 21 1 0 0, r0 21 (.isub) 22, rX 22 (.invokestatic 114) 25 151 1 1391,
  rX 25 (.ifCond .eq 16) 28 41 0 0, r0 28 (.iload_n 3) 29, r0 29 (.iconst 0) 30, rX 30 (.iconst 1) 31 1 0 0, r0 31 (.iload_n 1) 32, r0 32 (.ishl) 33, rX 33 (.iconst 1) 34 1 0 0, r0 34 (.isub) 35,
  rX 35 (.invokestatic 114) 38 151 1 1391, rX 38 (.ifCond .ne 11) 41 49 0 0, r0 41 (.aload_n 0) 42, rX 42 (.iconst 2) 43 2 0 0, rX 43 (.invokevirtual 74) 46 148 0 1375, r0 46 (.pop) 47, r0 47 (.iconst 0) 48, r0 48 (.ireturn) 49,
  r0 49 (.aload_n 0) 50, r0 50 (.iload_n 1) 51, r0 51 (.iload_n 2) 52, r0 52 (.iload_n 3) 53, rX 53 (.invokestatic 304) 56 263 1 1494, rX 56 (.invokevirtual 93) 59 150 0 1505, r0 59 (.ireturn) 60]
def T_r_signAt : List Row := [rX 0 (.iconst 1) 1 1 0 0, r0 1 (.istore_n 3) 2, r0 2 (.iload_n 1) 3, r0 3 (.istore 4) 5, r0 5 (.iload_n 2) 6, r0 6 (.istore 5) 8, rX 8 (.iconst 1) 9 1 0 0, r0 9 (.iload_n 0) 10,
  r0 10 (.ishl) 11, rX 11 (.iconst 1) 12 1 0 0, r0 12 (.ishr) 13, r0 13 (.istore 6) 15, rH 15 (.iload 6) 17 0 0 0 0, rX 17 (.ifCond .le 43) 20 60 0 0, r0 20 (.iload 4) 22, r0 22 (.iload 6) 24,
  rX 24 (.if_icmp .lt 13) 27 37 0 0, r0 27 (.iload 5) 29, r0 29 (.iload 6) 31, rX 31 (.if_icmp .lt 6) 34 37 0 0, r0 34 (.iload_n 3) 35, r0 35 (.ineg) 36, r0 36 (.istore_n 3) 37, r0 37 (.iload 4) 39,
  r0 39 (.iload 6) 41, r0 41 (.irem) 42, r0 42 (.istore 4) 44, r0 44 (.iload 5) 46, r0 46 (.iload 6) 48, r0 48 (.irem) 49, r0 49 (.istore 5) 51, r0 51 (.iload 6) 53,
  rX 53 (.iconst 1) 54 1 0 0, r0 54 (.ishr) 55, r0 55 (.istore 6) 57, rX 57 (.goto (-42)) 60 15 0 0, r0 60 (.iload_n 3) 61, r0 61 (.ireturn) 62]
def T_r_remembers : List Row := [r0 0 (.aload_n 0) 1, rX 1 (.getfield 298) 4 9 30 1230, rX 4 (.bipush 10) 6 10 0 0, rX 6 (.if_icmp .ne 43) 9 49 0 0, r0 9 (.iconst 0) 10, r0 10 (.istore_n 1) 11, rH 11 (.iload_n 1) 12 0 0 0 0, rX 12 (.sipush 567) 15 567 0 0,
  rX 15 (.if_icmp .ge 24) 18 39 0 0, r0 18 (.aload_n 0) 19, rX 19 (.getfield 35) 22 9 29 1229, r0 22 (.iload_n 1) 23, r0 23 (.aload_n 0) 24, rX 24 (.getfield 35) 27 9 29 1229, r0 27 (.iload_n 1) 28, rX 28 (.bipush 63) 30 63 0 0,
  r0 30 (.iadd) 31, r0 31 (.iaload) 32, r0 32 (.iastore) 33, rX 33 (.iinc 1 1) 36 1 0 0, rX 36 (.goto (-25)) 39 11 0 0, r0 39 (.aload_n 0) 40, r0 40 (.dup) 41, rX 41 (.getfield 298) 44 9 30 1230,
  rX 44 (.iconst 1) 45 1 0 0, r0 45 (.isub) 46, rX 46 (.putfield 298) 49 9 30 1230, r0 49 (.iconst 0) 50, r0 50 (.istore_n 1) 51, rH 51 (.iload_n 1) 52 0 0 0 0, rX 52 (.bipush 63) 54 63 0 0, rX 54 (.if_icmp .ge 29) 57 83 0 0,
  r0 57 (.aload_n 0) 58, rX 58 (.getfield 35) 61 9 29 1229, rX 61 (.bipush 63) 63 63 0 0, r0 63 (.aload_n 0) 64, rX 64 (.getfield 298) 67 9 30 1230, r0 67 (.imul) 68, r0 68 (.iload_n 1) 69, r0 69 (.iadd) 70,
  r0 70 (.aload_n 0) 71, rX 71 (.getfield 29) 74 9 27 1227, r0 74 (.iload_n 1) 75, r0 75 (.iaload) 76, r0 76 (.iastore) 77, rX 77 (.iinc 1 1) 80 1 0 0, rX 80 (.goto (-29)) 83 51 0 0, r0 83 (.aload_n 0) 84,
  r0 84 (.dup) 85, rX 85 (.getfield 298) 88 9 30 1230, rX 88 (.iconst 1) 89 1 0 0, r0 89 (.iadd) 90, rX 90 (.putfield 298) 93 9 30 1230, r0 93 (.aload_n 0) 94, rX 94 (.invokevirtual 301) 97 198 0 1501, r0 97 (.return_) 98]
def T_r_changed : List Row := [r0 0 (.aload_n 0) 1, rX 1 (.invokevirtual 460) 4 264 0 1857, r0 4 (.aload_n 0) 5, rX 5 (.getfield 29) 8 9 27 1227, r0 8 (.iload_n 1) 9, r0 9 (.iaload) 10, r0 10 (.istore_n 3) 11, r0 11 (.aload_n 0) 12,
  rX 12 (.getfield 29) 15 9 27 1227, r0 15 (.iload_n 1) 16, r0 16 (.iload_n 2) 17, r0 17 (.iastore) 18, r0 18 (.aload_n 0) 19, r0 19 (.iload_n 3) 20, rX 20 (.invokevirtual 93) 23 150 0 1505, r0 23 (.ireturn) 24]
def T_r_shine : List Row := [r0 0 (.aload_n 0) 1, r0 1 (.iconst 0) 2, rX 2 (.putfield 68) 5 9 0 1200, r0 5 (.aload_n 0) 6, r0 6 (.iload_n 1) 7, rX 7 (.invokevirtual 314) 10 187 0 1532, rX 10 (.ifCond .ne 9) 13 19 0 0, r0 13 (.aload_n 0) 14,
  rX 14 (.iconst 1) 15 1 0 0, rX 15 (.invokevirtual 74) 18 148 0 1375, r0 18 (.ireturn) 19, r0 19 (.iload_n 2) 20, r0 20 (.iconst 0) 21, rX 21 (.sipush 9999) 24 9999 0 0, rX 24 (.invokestatic 114) 27 151 1 1391, rX 27 (.ifCond .eq 12) 30 39 0 0,
  r0 30 (.aload_n 0) 31, r0 31 (.iload_n 1) 32, r0 32 (.iload_n 2) 33, rX 33 (.invokevirtual 463) 36 265 0 1853, rX 36 (.goto 8) 39 44 0 0, r0 39 (.aload_n 0) 40, rX 40 (.iconst 2) 41 2 0 0, rX 41 (.invokevirtual 74) 44 148 0 1375,
  r0 44 (.ireturn) 45]
def T_r_stick : List Row := [r0 0 (.aload_n 0) 1, r0 1 (.iconst 0) 2, rX 2 (.putfield 68) 5 9 0 1200, r0 5 (.aload_n 0) 6, r0 6 (.iload_n 1) 7, rX 7 (.invokevirtual 314) 10 187 0 1532, rX 10 (.ifCond .ne 9) 13 19 0 0, r0 13 (.aload_n 0) 14,
  rX 14 (.iconst 1) 15 1 0 0, rX 15 (.invokevirtual 74) 18 148 0 1375, r0 18 (.ireturn) 19, r0 19 (.iload_n 2) 20, r0 20 (.iconst 0) 21, rX 21 (.iconst 2) 22 2 0 0, rX 22 (.invokestatic 114) 25 151 1 1391, rX 25 (.ifCond .eq 15) 28 40 0 0,
  r0 28 (.aload_n 0) 29, rX 29 (.bipush 31) 31 31 0 0, r0 31 (.iload_n 1) 32, r0 32 (.iadd) 33, r0 33 (.iload_n 2) 34, rX 34 (.invokevirtual 463) 37 265 0 1853, rX 37 (.goto 8) 40 45 0 0, r0 40 (.aload_n 0) 41,
  rX 41 (.iconst 2) 42 2 0 0, rX 42 (.invokevirtual 74) 45 148 0 1375, r0 45 (.ireturn) 46]
def T_r_lose : List Row := [r0 0 (.aload_n 0) 1, r0 1 (.iconst 0) 2, rX 2 (.putfield 68) 5 9 0 1200, r0 5 (.aload_n 0) 6, r0 6 (.iload_n 1) 7, rX 7 (.invokevirtual 314) 10 187 0 1532, rX 10 (.ifCond .ne 9) 13 19 0 0, r0 13 (.aload_n 0) 14,
  rX 14 (.iconst 1) 15 1 0 0, rX 15 (.invokevirtual 74) 18 148 0 1375, r0 18 (.ireturn) 19, r0 19 (.aload_n 0) 20, rX 20 (.getfield 29) 23 9 27 1227, rX 23 (.bipush 62) 25 62 0 0, r0 25 (.iaload) 26, r0 26 (.iload_n 1) 27,
  rX 27 (.invokestatic 161) 30 152 1 1459, rX 30 (.ifCond .eq 9) 33 39 0 0, r0 33 (.aload_n 0) 34, rX 34 (.iconst 5) 35 5 0 0, rX 35 (.invokevirtual 74) 38 148 0 1375, r0 38 (.ireturn) 39, r0 39 (.aload_n 0) 40, rX 40 (.bipush 62) 42 62 0 0,
  r0 42 (.aload_n 0) 43, rX 43 (.getfield 29) 46 9 27 1227, rX 46 (.bipush 62) 48 62 0 0, r0 48 (.iaload) 49, rX 49 (.iconst 1) 50 1 0 0, r0 50 (.iload_n 1) 51, r0 51 (.ishl) 52, r0 52 (.ior) 53,
  rX 53 (.invokevirtual 463) 56 265 0 1853, r0 56 (.pop) 57, r0 57 (.aload_n 0) 58, r0 58 (.aload_n 0) 59, rX 59 (.invokevirtual 342) 62 207 0 1609, rX 62 (.invokevirtual 93) 65 150 0 1505, r0 65 (.ireturn) 66]
def T_r_undo : List Row := [r0 0 (.aload_n 0) 1, r0 1 (.iconst 0) 2, rX 2 (.putfield 68) 5 9 0 1200, r0 5 (.aload_n 0) 6, rX 6 (.getfield 272) 9 9 26 1226, rX 9 (.ifCond .eq 10) 12 19 0 0, r0 12 (.aload_n 0) 13, rX 13 (.getfield 298) 16 9 30 1230,
  rX 16 (.ifCond .ne 11) 19 27 0 0, r0 19 (.aload_n 0) 20, rX 20 (.iconst 1) 21 1 0 0, rX 21 (.invokevirtual 74) 24 148 0 1375, r0 24 (.pop) 25, r0 25 (.iconst 0) 26, r0 26 (.ireturn) 27, r0 27 (.aload_n 0) 28,
  r0 28 (.dup) 29, rX 29 (.getfield 298) 32 9 30 1230, rX 32 (.iconst 1) 33 1 0 0, r0 33 (.isub) 34, rX 34 (.putfield 298) 37 9 30 1230, r0 37 (.iconst 0) 38, r0 38 (.istore_n 1) 39, rH 39 (.iload_n 1) 40 0 0 0 0,
  rX 40 (.bipush 63) 42 63 0 0, rX 42 (.if_icmp .ge 29) 45 71 0 0, r0 45 (.aload_n 0) 46, rX 46 (.getfield 29) 49 9 27 1227, r0 49 (.iload_n 1) 50, r0 50 (.aload_n 0) 51, rX 51 (.getfield 35) 54 9 29 1229, rX 54 (.bipush 63) 56 63 0 0,
  r0 56 (.aload_n 0) 57, rX 57 (.getfield 298) 60 9 30 1230, r0 60 (.imul) 61, r0 61 (.iload_n 1) 62, r0 62 (.iadd) 63, r0 63 (.iaload) 64, r0 64 (.iastore) 65, rX 65 (.iinc 1 1) 68 1 0 0,
  rX 68 (.goto (-29)) 71 39 0 0, r0 71 (.aload_n 0) 72, rX 72 (.invokevirtual 301) 75 198 0 1501, r0 75 (.aload_n 0) 76, r0 76 (.iconst 0) 77, rX 77 (.invokevirtual 93) 80 150 0 1505, r0 80 (.pop) 81, rX 81 (.iconst 1) 82 1 0 0,
  r0 82 (.ireturn) 83]
def T_r_stuck : List Row := [r0 0 (.aload_n 0) 1, r0 1 (.iconst 0) 2, rX 2 (.putfield 68) 5 9 0 1200, r0 5 (.iconst 0) 6, r0 6 (.istore_n 2) 7, r0 7 (.iconst 0) 8, r0 8 (.istore_n 3) 9, rH 9 (.iload_n 3) 10 0 0 0 0,
  r0 10 (.aload_n 0) 11, rX 11 (.getfield 269) 14 9 5 1205, rX 14 (.if_icmp .ge 34) 17 48 0 0, r0 17 (.aload_n 0) 18, rX 18 (.getfield 29) 21 9 27 1227, rX 21 (.bipush 31) 23 31 0 0, r0 23 (.iload_n 3) 24, r0 24 (.iadd) 25,
  r0 25 (.iaload) 26, rX 26 (.ifCond .ne 6) 29 32 0 0, rX 29 (.goto 13) 32 42 0 0, r0 32 (.iload_n 2) 33, r0 33 (.iload_n 1) 34, rX 34 (.if_icmp .ne 5) 37 39 0 0, r0 37 (.iload_n 3) 38, r0 38 (.ireturn) 39,
  rX 39 (.iinc 2 1) 42 1 0 0, rX 42 (.iinc 3 1) 45 1 0 0, rX 45 (.goto (-36)) 48 9 0 0, r0 48 (.aload_n 0) 49, rX 49 (.iconst 1) 50 1 0 0, rX 50 (.putfield 68) 53 9 0 1200, r0 53 (.iconst 0) 54, r0 54 (.ireturn) 55]
def T_r_size : List Row := [r0 0 (.aload_n 0) 1, r0 1 (.iconst 0) 2, rX 2 (.putfield 68) 5 9 0 1200, r0 5 (.iload_n 1) 6, r0 6 (.tableswitch 76 0 5 #[38, 43, 48, 53, 66, 71]) 44, r0 44 (.aload_n 0) 45, rX 45 (.getfield 283) 48 9 9 1209, r0 48 (.ireturn) 49,
  r0 49 (.aload_n 0) 50, rX 50 (.invokevirtual 342) 53 207 0 1609, r0 53 (.ireturn) 54, r0 54 (.aload_n 0) 55, rX 55 (.getfield 324) 58 9 43 1243, r0 58 (.ireturn) 59, r0 59 (.aload_n 0) 60, rX 60 (.getfield 327) 63 9 46 1246,
  rX 63 (.ifCond .eq 7) 66 70 0 0, rX 66 (.iconst 1) 67 1 0 0, rX 67 (.goto 4) 70 71 0 0, r0 70 (.iconst 0) 71, r0 71 (.ireturn) 72, r0 72 (.aload_n 0) 73, rX 73 (.getfield 298) 76 9 30 1230, r0 76 (.ireturn) 77,
  r0 77 (.aload_n 0) 78, rX 78 (.getfield 260) 81 9 32 1232, r0 81 (.ireturn) 82, rX 82 (.iconst (-1)) 83 1 1 0, r0 83 (.ireturn) 84]
def T_r_trouble : List Row := [r0 0 (.aload_n 0) 1, r0 1 (.iconst 0) 2, rX 2 (.putfield 68) 5 9 0 1200, r0 5 (.aload_n 0) 6, rX 6 (.getfield 71) 9 9 1 1201, r0 9 (.ireturn) 10]
def T_ji_bitCount : List Row := [r0 0 (.iload_n 0) 1, r0 1 (.iload_n 0) 2, rX 2 (.iconst 1) 3 1 0 0, r0 3 (.iushr) 4, rX 4 (.ldc_w 265) 7 1431655765 0 596, r0 7 (.iand) 8, r0 8 (.isub) 9, r0 9 (.istore_n 0) 10,
  r0 10 (.iload_n 0) 11, rX 11 (.ldc_w 266) 14 858993459 0 597, r0 14 (.iand) 15, r0 15 (.iload_n 0) 16, rX 16 (.iconst 2) 17 2 0 0, r0 17 (.iushr) 18, rX 18 (.ldc_w 266) 21 858993459 0 597, r0 21 (.iand) 22,
  r0 22 (.iadd) 23, r0 23 (.istore_n 0) 24, r0 24 (.iload_n 0) 25, r0 25 (.iload_n 0) 26, rX 26 (.iconst 4) 27 4 0 0, r0 27 (.iushr) 28, r0 28 (.iadd) 29, rX 29 (.ldc_w 267) 32 252645135 0 598,
  r0 32 (.iand) 33, r0 33 (.istore_n 0) 34, r0 34 (.iload_n 0) 35, r0 35 (.iload_n 0) 36, rX 36 (.bipush 8) 38 8 0 0, r0 38 (.iushr) 39, r0 39 (.iadd) 40, r0 40 (.istore_n 0) 41,
  r0 41 (.iload_n 0) 42, r0 42 (.iload_n 0) 43, rX 43 (.bipush 16) 45 16 0 0, r0 45 (.iushr) 46, r0 46 (.iadd) 47, r0 47 (.istore_n 0) 48, r0 48 (.iload_n 0) 49, rX 49 (.bipush 63) 51 63 0 0,
  r0 51 (.iand) 52, r0 52 (.ireturn) 53]
def T_js_length : List Row := [r0 0 (.aload_n 0) 1, rX 1 (.getfield 9) 4 90 0 1899, r0 4 (.arraylength) 5, r0 5 (.aload_n 0) 6, rX 6 (.invokevirtual 335) 9 276 0 518, r0 9 (.ishr) 10, r0 10 (.ireturn) 11]
def T_js_charAt : List Row := [r0 0 (.aload_n 0) 1, rX 1 (.invokevirtual 492) 4 277 0 528, rX 4 (.ifCond .eq 12) 7 16 0 0, r0 7 (.aload_n 0) 8, rX 8 (.getfield 9) 11 90 0 1899, r0 11 (.iload_n 1) 12, rX 12 (.invokestatic 495) 15 279 1 532, r0 15 (.ireturn) 16,
  r0 16 (.aload_n 0) 17, rX 17 (.getfield 9) 20 90 0 1899, r0 20 (.iload_n 1) 21, rX 21 (.invokestatic 498) 24 9999 9 0, r0 24 (.ireturn) 25]
def T_js_coder : List Row := [rX 0 (.getstatic 38) 3 0 0 522, rX 3 (.ifCond .eq 10) 6 13 0 0, r0 6 (.aload_n 0) 7, rX 7 (.getfield 15) 10 90 1 1900, rX 10 (.goto 4) 13 14 0 0, rX 13 (.iconst 1) 14 1 0 0, r0 14 (.ireturn) 15]
def T_js_isLatin1 : List Row := [rX 0 (.getstatic 38) 3 0 0 522, rX 3 (.ifCond .eq 14) 6 17 0 0, r0 6 (.aload_n 0) 7, rX 7 (.getfield 15) 10 90 1 1900, rX 10 (.ifCond .ne 7) 13 17 0 0, rX 13 (.iconst 1) 14 1 0 0, rX 14 (.goto 4) 17 18 0 0, r0 17 (.iconst 0) 18,
  r0 18 (.ireturn) 19]
def T_js_checkIndex : List Row := [r0 0 (.iload_n 0) 1, r0 1 (.iload_n 1) 2, rX 2 (.getstatic 1053) 5 2 0 538, rX 5 (.invokestatic 1059) 8 280 1 540, r0 8 (.pop) 9, r0 9 (.return_) 10]
def T_jl_charAt : List Row := [r0 0 (.iload_n 1) 1, r0 1 (.aload_n 0) 2, r0 2 (.arraylength) 3, rX 3 (.invokestatic 9) 6 278 1 535, r0 6 (.aload_n 0) 7, r0 7 (.iload_n 1) 8, r0 8 (.baload) 9, rX 9 (.sipush 255) 12 255 0 0,
  r0 12 (.iand) 13, r0 13 (.i2c) 14, r0 14 (.ireturn) 15]
def T_jp_checkIndex : List Row := [r0 0 (.iload_n 0) 1, rX 1 (.ifCond .lt 8) 4 9 0 0, r0 4 (.iload_n 0) 5, r0 5 (.iload_n 1) 6, rX 6 (.if_icmp .lt 10) 9 16 0 0, r0 9 (.aload_n 2) 10, r0 10 (.iload_n 0) 11, r0 11 (.iload_n 1) 12,
  rX 12 (.invokestatic 95) 15 9999 9 0, r0 15 (.athrow) 16, r0 16 (.iload_n 0) 17, r0 17 (.ireturn) 18]
def T_l_law_0 : List Row := [rX 0 (.new 8) 3 0 0 132, r0 3 (.dup) 4, rX 4 (.invokespecial 15) 7 84 2 134, r0 7 (.astore_n 1) 8, rX 8 (.new 16) 11 9 0 1193, r0 11 (.dup) 12, rX 12 (.invokespecial 18) 15 146 2 1195, r0 15 (.astore_n 2) 16,
  rX 16 (.iconst 1) 17 1 0 0, r0 17 (.newarray .long) 19, r0 19 (.astore_n 3) 20, r0 20 (.iconst 0) 21, r0 21 (.istore 4) 23, rH 23 (.iload 4) 25 0 0 0 0, r0 25 (.aload_n 0) 26, r0 26 (.arraylength) 27,
  rX 27 (.bipush 6) 29 6 0 0, r0 29 (.isub) 30, rX 30 (.if_icmp .gt 1754) 33 1784 0 0, r0 33 (.aload_n 0) 34, r0 34 (.iload 4) 36, r0 36 (.iaload) 37, rX 37 (.bipush 63) 39 63 0 0, r0 39 (.iand) 40,
  r0 40 (.tableswitch 1738 0 52 #[228, 301, 326, 339, 352, 377, 402, 439, 464, 489, 514, 539, 564, 589, 614, 639, 676, 689, 702, 727, 752, 806, 819, 861, 915, 957, 970, 1012, 1054, 1067, 1092, 1106, 1119, 1132, 1157, 1194, 1219, 1232, 1245, 1299, 1365, 1419, 1432, 1445, 1458, 1483, 1532, 1569, 1606, 1631, 1644, 1700, 1725]) 268, r0 268 (.aload_n 1) 269, r0 269 (.aload_n 0) 270, r0 270 (.iload 4) 272, rX 272 (.iconst 1) 273 1 0 0, r0 273 (.iadd) 274, r0 274 (.iaload) 275, r0 275 (.aload_n 0) 276,
  r0 276 (.iload 4) 278, rX 278 (.iconst 2) 279 2 0 0, r0 279 (.iadd) 280, r0 280 (.iaload) 281, r0 281 (.aload_n 0) 282, r0 282 (.iload 4) 284, rX 284 (.iconst 3) 285 3 0 0, r0 285 (.iadd) 286,
  r0 286 (.iaload) 287, r0 287 (.aload_n 0) 288, r0 288 (.iload 4) 290, rX 290 (.iconst 4) 291 4 0 0, r0 291 (.iadd) 292, r0 292 (.iaload) 293, r0 293 (.aload_n 0) 294, r0 294 (.iload 4) 296]
def T_l_law_1 : List Row := [rX 296 (.iconst 5) 297 5 0 0, r0 297 (.iadd) 298, r0 298 (.iaload) 299, rX 299 (.invokevirtual 19) 302 85 0 462, r0 302 (.aload_n 2) 303, r0 303 (.aload_n 0) 304, r0 304 (.iload 4) 306, rX 306 (.iconst 1) 307 1 0 0,
  r0 307 (.iadd) 308, r0 308 (.iaload) 309, r0 309 (.aload_n 0) 310, r0 310 (.iload 4) 312, rX 312 (.iconst 2) 313 2 0 0, r0 313 (.iadd) 314, r0 314 (.iaload) 315, r0 315 (.aload_n 0) 316,
  r0 316 (.iload 4) 318, rX 318 (.iconst 3) 319 3 0 0, r0 319 (.iadd) 320, r0 320 (.iaload) 321, r0 321 (.aload_n 0) 322, r0 322 (.iload 4) 324, rX 324 (.iconst 4) 325 4 0 0, r0 325 (.iadd) 326,
  r0 326 (.iaload) 327, r0 327 (.aload_n 0) 328, r0 328 (.iload 4) 330, rX 330 (.iconst 5) 331 5 0 0, r0 331 (.iadd) 332, r0 332 (.iaload) 333, rX 333 (.invokevirtual 23) 336 178 0 1367, rX 336 (.if_icmp .eq 1442) 339 1778 0 0,
  r0 339 (.iconst 0) 340, r0 340 (.ireturn) 341, r0 341 (.aload_n 1) 342, r0 342 (.aload_n 0) 343, r0 343 (.iload 4) 345, rX 345 (.iconst 1) 346 1 0 0, r0 346 (.iadd) 347, r0 347 (.iaload) 348,
  rX 348 (.invokevirtual 24) 351 86 0 474, r0 351 (.aload_n 2) 352, r0 352 (.aload_n 0) 353, r0 353 (.iload 4) 355, rX 355 (.iconst 1) 356 1 0 0, r0 356 (.iadd) 357, r0 357 (.iaload) 358, rX 358 (.invokevirtual 27) 361 179 0 1371]
def T_l_law_2 : List Row := [rX 361 (.if_icmp .eq 1417) 364 1778 0 0, r0 364 (.iconst 0) 365, r0 365 (.ireturn) 366, r0 366 (.aload_n 1) 367, rX 367 (.invokevirtual 28) 370 87 0 686, r0 370 (.aload_n 2) 371, rX 371 (.invokevirtual 32) 374 183 0 1509, rX 374 (.if_icmp .eq 1404) 377 1778 0 0,
  r0 377 (.iconst 0) 378, r0 378 (.ireturn) 379, r0 379 (.aload_n 1) 380, rX 380 (.invokevirtual 33) 383 88 0 690, r0 383 (.aload_n 2) 384, rX 384 (.invokevirtual 36) 387 184 0 1513, rX 387 (.if_icmp .eq 1391) 390 1778 0 0, r0 390 (.iconst 0) 391,
  r0 391 (.ireturn) 392, r0 392 (.aload_n 1) 393, r0 393 (.aload_n 0) 394, r0 394 (.iload 4) 396, rX 396 (.iconst 1) 397 1 0 0, r0 397 (.iadd) 398, r0 398 (.iaload) 399, rX 399 (.invokevirtual 37) 402 89 0 694,
  r0 402 (.aload_n 2) 403, r0 403 (.aload_n 0) 404, r0 404 (.iload 4) 406, rX 406 (.iconst 1) 407 1 0 0, r0 407 (.iadd) 408, r0 408 (.iaload) 409, rX 409 (.invokevirtual 40) 412 186 0 1517, rX 412 (.if_icmp .eq 1366) 415 1778 0 0,
  r0 415 (.iconst 0) 416, r0 416 (.ireturn) 417, r0 417 (.aload_n 1) 418, r0 418 (.aload_n 0) 419, r0 419 (.iload 4) 421, rX 421 (.iconst 1) 422 1 0 0, r0 422 (.iadd) 423, r0 423 (.iaload) 424,
  rX 424 (.invokevirtual 41) 427 90 0 706, r0 427 (.aload_n 2) 428, r0 428 (.aload_n 0) 429, r0 429 (.iload 4) 431, rX 431 (.iconst 1) 432 1 0 0, r0 432 (.iadd) 433, r0 433 (.iaload) 434, rX 434 (.invokevirtual 44) 437 189 0 1528]
def T_l_law_3 : List Row := [rX 437 (.if_icmp .eq 1341) 440 1778 0 0, r0 440 (.iconst 0) 441, r0 441 (.ireturn) 442, r0 442 (.aload_n 1) 443, r0 443 (.aload_n 0) 444, r0 444 (.iload 4) 446, rX 446 (.iconst 1) 447 1 0 0, r0 447 (.iadd) 448,
  r0 448 (.iaload) 449, r0 449 (.aload_n 0) 450, r0 450 (.iload 4) 452, rX 452 (.iconst 2) 453 2 0 0, r0 453 (.iadd) 454, r0 454 (.iaload) 455, rX 455 (.invokevirtual 45) 458 91 0 715, r0 458 (.aload_n 2) 459,
  r0 459 (.aload_n 0) 460, r0 460 (.iload 4) 462, rX 462 (.iconst 1) 463 1 0 0, r0 463 (.iadd) 464, r0 464 (.iaload) 465, r0 465 (.aload_n 0) 466, r0 466 (.iload 4) 468, rX 468 (.iconst 2) 469 2 0 0,
  r0 469 (.iadd) 470, r0 470 (.iaload) 471, rX 471 (.invokevirtual 49) 474 190 0 1536, rX 474 (.if_icmp .eq 1304) 477 1778 0 0, r0 477 (.iconst 0) 478, r0 478 (.ireturn) 479, r0 479 (.aload_n 1) 480, r0 480 (.aload_n 0) 481,
  r0 481 (.iload 4) 483, rX 483 (.iconst 1) 484 1 0 0, r0 484 (.iadd) 485, r0 485 (.iaload) 486, rX 486 (.invokevirtual 50) 489 92 0 720, r0 489 (.aload_n 2) 490, r0 490 (.aload_n 0) 491, r0 491 (.iload 4) 493,
  rX 493 (.iconst 1) 494 1 0 0, r0 494 (.iadd) 495, r0 495 (.iaload) 496, rX 496 (.invokevirtual 53) 499 191 0 1540, rX 499 (.if_icmp .eq 1279) 502 1778 0 0, r0 502 (.iconst 0) 503, r0 503 (.ireturn) 504, r0 504 (.aload_n 1) 505]
def T_l_law_4 : List Row := [r0 505 (.aload_n 0) 506, r0 506 (.iload 4) 508, rX 508 (.iconst 1) 509 1 0 0, r0 509 (.iadd) 510, r0 510 (.iaload) 511, rX 511 (.invokevirtual 54) 514 93 0 736, r0 514 (.aload_n 2) 515, r0 515 (.aload_n 0) 516,
  r0 516 (.iload 4) 518, rX 518 (.iconst 1) 519 1 0 0, r0 519 (.iadd) 520, r0 520 (.iaload) 521, rX 521 (.invokevirtual 57) 524 192 0 1548, rX 524 (.if_icmp .eq 1254) 527 1778 0 0, r0 527 (.iconst 0) 528, r0 528 (.ireturn) 529,
  r0 529 (.aload_n 1) 530, r0 530 (.aload_n 0) 531, r0 531 (.iload 4) 533, rX 533 (.iconst 1) 534 1 0 0, r0 534 (.iadd) 535, r0 535 (.iaload) 536, rX 536 (.invokevirtual 58) 539 94 0 741, r0 539 (.aload_n 2) 540,
  r0 540 (.aload_n 0) 541, r0 541 (.iload 4) 543, rX 543 (.iconst 1) 544 1 0 0, r0 544 (.iadd) 545, r0 545 (.iaload) 546, rX 546 (.invokevirtual 61) 549 193 0 1552, rX 549 (.if_icmp .eq 1229) 552 1778 0 0, r0 552 (.iconst 0) 553,
  r0 553 (.ireturn) 554, r0 554 (.aload_n 1) 555, r0 555 (.aload_n 0) 556, r0 556 (.iload 4) 558, rX 558 (.iconst 1) 559 1 0 0, r0 559 (.iadd) 560, r0 560 (.iaload) 561, rX 561 (.invokevirtual 62) 564 95 0 745,
  r0 564 (.aload_n 2) 565, r0 565 (.aload_n 0) 566, r0 566 (.iload 4) 568, rX 568 (.iconst 1) 569 1 0 0, r0 569 (.iadd) 570, r0 570 (.iaload) 571, rX 571 (.invokevirtual 65) 574 194 0 1556, rX 574 (.if_icmp .eq 1204) 577 1778 0 0]
def T_l_law_5 : List Row := [r0 577 (.iconst 0) 578, r0 578 (.ireturn) 579, r0 579 (.aload_n 1) 580, r0 580 (.aload_n 0) 581, r0 581 (.iload 4) 583, rX 583 (.iconst 1) 584 1 0 0, r0 584 (.iadd) 585, r0 585 (.iaload) 586,
  rX 586 (.invokevirtual 66) 589 96 0 749, r0 589 (.aload_n 2) 590, r0 590 (.aload_n 0) 591, r0 591 (.iload 4) 593, rX 593 (.iconst 1) 594 1 0 0, r0 594 (.iadd) 595, r0 595 (.iaload) 596, rX 596 (.invokevirtual 69) 599 195 0 1560,
  rX 599 (.if_icmp .eq 1179) 602 1778 0 0, r0 602 (.iconst 0) 603, r0 603 (.ireturn) 604, r0 604 (.aload_n 1) 605, r0 605 (.aload_n 0) 606, r0 606 (.iload 4) 608, rX 608 (.iconst 1) 609 1 0 0, r0 609 (.iadd) 610,
  r0 610 (.iaload) 611, rX 611 (.invokevirtual 70) 614 97 0 757, r0 614 (.aload_n 2) 615, r0 615 (.aload_n 0) 616, r0 616 (.iload 4) 618, rX 618 (.iconst 1) 619 1 0 0, r0 619 (.iadd) 620, r0 620 (.iaload) 621,
  rX 621 (.invokevirtual 73) 624 196 0 1564, rX 624 (.if_icmp .eq 1154) 627 1778 0 0, r0 627 (.iconst 0) 628, r0 628 (.ireturn) 629, r0 629 (.aload_n 1) 630, r0 630 (.aload_n 0) 631, r0 631 (.iload 4) 633, rX 633 (.iconst 1) 634 1 0 0,
  r0 634 (.iadd) 635, r0 635 (.iaload) 636, rX 636 (.invokevirtual 74) 639 98 0 762, r0 639 (.aload_n 2) 640, r0 640 (.aload_n 0) 641, r0 641 (.iload 4) 643, rX 643 (.iconst 1) 644 1 0 0, r0 644 (.iadd) 645]
def T_l_law_6 : List Row := [r0 645 (.iaload) 646, rX 646 (.invokevirtual 77) 649 197 0 1569, rX 649 (.if_icmp .eq 1129) 652 1778 0 0, r0 652 (.iconst 0) 653, r0 653 (.ireturn) 654, r0 654 (.aload_n 1) 655, r0 655 (.aload_n 0) 656, r0 656 (.iload 4) 658,
  rX 658 (.iconst 1) 659 1 0 0, r0 659 (.iadd) 660, r0 660 (.iaload) 661, rX 661 (.invokevirtual 78) 664 99 0 770, r0 664 (.aload_n 2) 665, r0 665 (.aload_n 0) 666, r0 666 (.iload 4) 668, rX 668 (.iconst 1) 669 1 0 0,
  r0 669 (.iadd) 670, r0 670 (.iaload) 671, rX 671 (.invokevirtual 81) 674 201 0 1573, rX 674 (.if_icmp .eq 1104) 677 1778 0 0, r0 677 (.iconst 0) 678, r0 678 (.ireturn) 679, r0 679 (.aload_n 1) 680, r0 680 (.aload_n 0) 681,
  r0 681 (.iload 4) 683, rX 683 (.iconst 1) 684 1 0 0, r0 684 (.iadd) 685, r0 685 (.iaload) 686, r0 686 (.aload_n 0) 687, r0 687 (.iload 4) 689, rX 689 (.iconst 2) 690 2 0 0, r0 690 (.iadd) 691,
  r0 691 (.iaload) 692, rX 692 (.invokevirtual 82) 695 100 0 786, r0 695 (.aload_n 2) 696, r0 696 (.aload_n 0) 697, r0 697 (.iload 4) 699, rX 699 (.iconst 1) 700 1 0 0, r0 700 (.iadd) 701, r0 701 (.iaload) 702,
  r0 702 (.aload_n 0) 703, r0 703 (.iload 4) 705, rX 705 (.iconst 2) 706 2 0 0, r0 706 (.iadd) 707, r0 707 (.iaload) 708, rX 708 (.invokevirtual 85) 711 202 0 1585, rX 711 (.if_icmp .eq 1067) 714 1778 0 0, r0 714 (.iconst 0) 715]
def T_l_law_7 : List Row := [r0 715 (.ireturn) 716, r0 716 (.aload_n 1) 717, rX 717 (.invokevirtual 86) 720 101 0 790, r0 720 (.aload_n 2) 721, rX 721 (.invokevirtual 89) 724 203 0 1589, rX 724 (.if_icmp .eq 1054) 727 1778 0 0, r0 727 (.iconst 0) 728, r0 728 (.ireturn) 729,
  r0 729 (.aload_n 1) 730, rX 730 (.invokevirtual 90) 733 102 0 813, r0 733 (.aload_n 2) 734, rX 734 (.invokevirtual 93) 737 204 0 1593, rX 737 (.if_icmp .eq 1041) 740 1778 0 0, r0 740 (.iconst 0) 741, r0 741 (.ireturn) 742, r0 742 (.aload_n 1) 743,
  r0 743 (.aload_n 0) 744, r0 744 (.iload 4) 746, rX 746 (.iconst 1) 747 1 0 0, r0 747 (.iadd) 748, r0 748 (.iaload) 749, rX 749 (.invokevirtual 94) 752 103 0 818, r0 752 (.aload_n 2) 753, r0 753 (.aload_n 0) 754,
  r0 754 (.iload 4) 756, rX 756 (.iconst 1) 757 1 0 0, r0 757 (.iadd) 758, r0 758 (.iaload) 759, rX 759 (.invokevirtual 97) 762 206 0 1597, rX 762 (.if_icmp .eq 1016) 765 1778 0 0, r0 765 (.iconst 0) 766, r0 766 (.ireturn) 767,
  r0 767 (.aload_n 1) 768, r0 768 (.aload_n 0) 769, r0 769 (.iload 4) 771, rX 771 (.iconst 1) 772 1 0 0, r0 772 (.iadd) 773, r0 773 (.iaload) 774, rX 774 (.invokevirtual 98) 777 104 0 822, r0 777 (.aload_n 2) 778,
  r0 778 (.aload_n 0) 779, r0 779 (.iload 4) 781, rX 781 (.iconst 1) 782 1 0 0, r0 782 (.iadd) 783, r0 783 (.iaload) 784, rX 784 (.invokevirtual 101) 787 210 0 1605, rX 787 (.if_icmp .eq 991) 790 1778 0 0, r0 790 (.iconst 0) 791]
def T_l_law_8 : List Row := [r0 791 (.ireturn) 792, r0 792 (.aload_n 1) 793, r0 793 (.aload_n 0) 794, r0 794 (.iload 4) 796, rX 796 (.iconst 1) 797 1 0 0, r0 797 (.iadd) 798, r0 798 (.iaload) 799, r0 799 (.aload_n 0) 800,
  r0 800 (.iload 4) 802, rX 802 (.iconst 2) 803 2 0 0, r0 803 (.iadd) 804, r0 804 (.iaload) 805, rX 805 (.ifCond .eq 7) 808 812 0 0, rX 808 (.iconst 1) 809 1 0 0, rX 809 (.goto 4) 812 813 0 0, r0 812 (.iconst 0) 813,
  rX 813 (.invokevirtual 102) 816 105 0 827, r0 816 (.aload_n 2) 817, r0 817 (.aload_n 0) 818, r0 818 (.iload 4) 820, rX 820 (.iconst 1) 821 1 0 0, r0 821 (.iadd) 822, r0 822 (.iaload) 823, r0 823 (.aload_n 0) 824,
  r0 824 (.iload 4) 826, rX 826 (.iconst 2) 827 2 0 0, r0 827 (.iadd) 828, r0 828 (.iaload) 829, rX 829 (.ifCond .eq 7) 832 836 0 0, rX 832 (.iconst 1) 833 1 0 0, rX 833 (.goto 4) 836 837 0 0, r0 836 (.iconst 0) 837,
  rX 837 (.invokevirtual 106) 840 215 0 1621, r0 840 (.lcmp) 841, rX 841 (.ifCond .eq 937) 844 1778 0 0, r0 844 (.iconst 0) 845, r0 845 (.ireturn) 846, r0 846 (.aload_n 1) 847, rX 847 (.invokevirtual 107) 850 106 0 853, r0 850 (.aload_n 2) 851,
  rX 851 (.invokevirtual 110) 854 216 0 1655, rX 854 (.if_icmp .eq 924) 857 1778 0 0, r0 857 (.iconst 0) 858, r0 858 (.ireturn) 859, r0 859 (.aload_n 1) 860, r0 860 (.aload_n 0) 861, r0 861 (.iload 4) 863, rX 863 (.iconst 1) 864 1 0 0]
def T_l_law_9 : List Row := [r0 864 (.iadd) 865, r0 865 (.iaload) 866, rX 866 (.ifCond .eq 7) 869 873 0 0, rX 869 (.iconst 1) 870 1 0 0, rX 870 (.goto 4) 873 874 0 0, r0 873 (.iconst 0) 874, rX 874 (.invokevirtual 111) 877 107 0 860, r0 877 (.aload_n 2) 878,
  r0 878 (.aload_n 0) 879, r0 879 (.iload 4) 881, rX 881 (.iconst 1) 882 1 0 0, r0 882 (.iadd) 883, r0 883 (.iaload) 884, rX 884 (.ifCond .eq 7) 887 891 0 0, rX 887 (.iconst 1) 888 1 0 0, rX 888 (.goto 4) 891 892 0 0,
  r0 891 (.iconst 0) 892, rX 892 (.invokevirtual 115) 895 217 0 1659, r0 895 (.lcmp) 896, rX 896 (.ifCond .eq 882) 899 1778 0 0, r0 899 (.iconst 0) 900, r0 900 (.ireturn) 901, r0 901 (.aload_n 1) 902, r0 902 (.aload_n 0) 903,
  r0 903 (.iload 4) 905, rX 905 (.iconst 1) 906 1 0 0, r0 906 (.iadd) 907, r0 907 (.iaload) 908, r0 908 (.aload_n 0) 909, r0 909 (.iload 4) 911, rX 911 (.iconst 2) 912 2 0 0, r0 912 (.iadd) 913,
  r0 913 (.iaload) 914, rX 914 (.ifCond .eq 7) 917 921 0 0, rX 917 (.iconst 1) 918 1 0 0, rX 918 (.goto 4) 921 922 0 0, r0 921 (.iconst 0) 922, rX 922 (.invokevirtual 116) 925 108 0 864, r0 925 (.aload_n 2) 926, r0 926 (.aload_n 0) 927,
  r0 927 (.iload 4) 929, rX 929 (.iconst 1) 930 1 0 0, r0 930 (.iadd) 931, r0 931 (.iaload) 932, r0 932 (.aload_n 0) 933, r0 933 (.iload 4) 935, rX 935 (.iconst 2) 936 2 0 0, r0 936 (.iadd) 937]
def T_l_law_10 : List Row := [r0 937 (.iaload) 938, rX 938 (.ifCond .eq 7) 941 945 0 0, rX 941 (.iconst 1) 942 1 0 0, rX 942 (.goto 4) 945 946 0 0, r0 945 (.iconst 0) 946, rX 946 (.invokevirtual 119) 949 218 0 1667, r0 949 (.lcmp) 950, rX 950 (.ifCond .eq 828) 953 1778 0 0,
  r0 953 (.iconst 0) 954, r0 954 (.ireturn) 955, r0 955 (.aload_n 1) 956, r0 956 (.aload_n 0) 957, r0 957 (.iload 4) 959, rX 959 (.iconst 1) 960 1 0 0, r0 960 (.iadd) 961, r0 961 (.iaload) 962,
  rX 962 (.ifCond .eq 7) 965 969 0 0, rX 965 (.iconst 1) 966 1 0 0, rX 966 (.goto 4) 969 970 0 0, r0 969 (.iconst 0) 970, rX 970 (.invokevirtual 120) 973 109 0 874, r0 973 (.aload_n 2) 974, r0 974 (.aload_n 0) 975, r0 975 (.iload 4) 977,
  rX 977 (.iconst 1) 978 1 0 0, r0 978 (.iadd) 979, r0 979 (.iaload) 980, rX 980 (.ifCond .eq 7) 983 987 0 0, rX 983 (.iconst 1) 984 1 0 0, rX 984 (.goto 4) 987 988 0 0, r0 987 (.iconst 0) 988, rX 988 (.invokevirtual 123) 991 219 0 1671,
  r0 991 (.lcmp) 992, rX 992 (.ifCond .eq 786) 995 1778 0 0, r0 995 (.iconst 0) 996, r0 996 (.ireturn) 997, r0 997 (.aload_n 1) 998, rX 998 (.invokevirtual 124) 1001 110 0 883, r0 1001 (.aload_n 2) 1002, rX 1002 (.invokevirtual 127) 1005 221 0 1675,
  rX 1005 (.if_icmp .eq 773) 1008 1778 0 0, r0 1008 (.iconst 0) 1009, r0 1009 (.ireturn) 1010, r0 1010 (.aload_n 1) 1011, r0 1011 (.aload_n 0) 1012, r0 1012 (.iload 4) 1014, rX 1014 (.iconst 1) 1015 1 0 0, r0 1015 (.iadd) 1016]
def T_l_law_11 : List Row := [r0 1016 (.iaload) 1017, rX 1017 (.ifCond .eq 7) 1020 1024 0 0, rX 1020 (.iconst 1) 1021 1 0 0, rX 1021 (.goto 4) 1024 1025 0 0, r0 1024 (.iconst 0) 1025, rX 1025 (.invokevirtual 128) 1028 111 0 889, r0 1028 (.aload_n 2) 1029, r0 1029 (.aload_n 0) 1030,
  r0 1030 (.iload 4) 1032, rX 1032 (.iconst 1) 1033 1 0 0, r0 1033 (.iadd) 1034, r0 1034 (.iaload) 1035, rX 1035 (.ifCond .eq 7) 1038 1042 0 0, rX 1038 (.iconst 1) 1039 1 0 0, rX 1039 (.goto 4) 1042 1043 0 0, r0 1042 (.iconst 0) 1043,
  rX 1043 (.invokevirtual 131) 1046 222 0 1682, r0 1046 (.lcmp) 1047, rX 1047 (.ifCond .eq 731) 1050 1778 0 0, r0 1050 (.iconst 0) 1051, r0 1051 (.ireturn) 1052, r0 1052 (.aload_n 1) 1053, r0 1053 (.aload_n 0) 1054, r0 1054 (.iload 4) 1056,
  rX 1056 (.iconst 1) 1057 1 0 0, r0 1057 (.iadd) 1058, r0 1058 (.iaload) 1059, rX 1059 (.ifCond .eq 7) 1062 1066 0 0, rX 1062 (.iconst 1) 1063 1 0 0, rX 1063 (.goto 4) 1066 1067 0 0, r0 1066 (.iconst 0) 1067, rX 1067 (.invokevirtual 132) 1070 112 0 894,
  r0 1070 (.aload_n 2) 1071, r0 1071 (.aload_n 0) 1072, r0 1072 (.iload 4) 1074, rX 1074 (.iconst 1) 1075 1 0 0, r0 1075 (.iadd) 1076, r0 1076 (.iaload) 1077, rX 1077 (.ifCond .eq 7) 1080 1084 0 0, rX 1080 (.iconst 1) 1081 1 0 0,
  rX 1081 (.goto 4) 1084 1085 0 0, r0 1084 (.iconst 0) 1085, rX 1085 (.invokevirtual 135) 1088 223 0 1686, r0 1088 (.lcmp) 1089, rX 1089 (.ifCond .eq 689) 1092 1778 0 0, r0 1092 (.iconst 0) 1093, r0 1093 (.ireturn) 1094, r0 1094 (.aload_n 1) 1095]
def T_l_law_12 : List Row := [rX 1095 (.invokevirtual 136) 1098 113 0 898, r0 1098 (.aload_n 2) 1099, rX 1099 (.invokevirtual 139) 1102 224 0 1690, rX 1102 (.if_icmp .eq 676) 1105 1778 0 0, r0 1105 (.iconst 0) 1106, r0 1106 (.ireturn) 1107, r0 1107 (.aload_n 1) 1108, r0 1108 (.aload_n 0) 1109,
  r0 1109 (.iload 4) 1111, rX 1111 (.iconst 1) 1112 1 0 0, r0 1112 (.iadd) 1113, r0 1113 (.iaload) 1114, rX 1114 (.invokevirtual 140) 1117 114 0 902, r0 1117 (.aload_n 2) 1118, r0 1118 (.aload_n 0) 1119, r0 1119 (.iload 4) 1121,
  rX 1121 (.iconst 1) 1122 1 0 0, r0 1122 (.iadd) 1123, r0 1123 (.iaload) 1124, rX 1124 (.invokevirtual 143) 1127 227 0 1694, rX 1127 (.if_icmp .eq 651) 1130 1778 0 0, r0 1130 (.iconst 0) 1131, r0 1131 (.ireturn) 1132, r0 1132 (.aload_n 1) 1133,
  rX 1133 (.invokevirtual 144) 1136 115 0 911, r0 1136 (.aload_n 2) 1137, rX 1137 (.invokevirtual 148) 1140 228 0 1702, r0 1140 (.lcmp) 1141, rX 1141 (.ifCond .eq 637) 1144 1778 0 0, r0 1144 (.iconst 0) 1145, r0 1145 (.ireturn) 1146, r0 1146 (.aload_n 1) 1147,
  rX 1147 (.invokevirtual 149) 1150 116 0 915, r0 1150 (.aload_n 2) 1151, rX 1151 (.invokevirtual 152) 1154 229 0 1710, rX 1154 (.if_icmp .eq 624) 1157 1778 0 0, r0 1157 (.iconst 0) 1158, r0 1158 (.ireturn) 1159, r0 1159 (.aload_n 1) 1160, rX 1160 (.invokevirtual 153) 1163 117 0 919,
  r0 1163 (.aload_n 2) 1164, rX 1164 (.invokevirtual 156) 1167 240 0 1714, rX 1167 (.if_icmp .eq 611) 1170 1778 0 0, r0 1170 (.iconst 0) 1171, r0 1171 (.ireturn) 1172, r0 1172 (.aload_n 1) 1173, r0 1173 (.aload_n 0) 1174, r0 1174 (.iload 4) 1176]
def T_l_law_13 : List Row := [rX 1176 (.iconst 1) 1177 1 0 0, r0 1177 (.iadd) 1178, r0 1178 (.iaload) 1179, rX 1179 (.invokevirtual 157) 1182 118 0 964, r0 1182 (.aload_n 2) 1183, r0 1183 (.aload_n 0) 1184, r0 1184 (.iload 4) 1186, rX 1186 (.iconst 1) 1187 1 0 0,
  r0 1187 (.iadd) 1188, r0 1188 (.iaload) 1189, rX 1189 (.invokevirtual 160) 1192 241 0 1755, rX 1192 (.if_icmp .eq 586) 1195 1778 0 0, r0 1195 (.iconst 0) 1196, r0 1196 (.ireturn) 1197, r0 1197 (.aload_n 1) 1198, r0 1198 (.aload_n 0) 1199,
  r0 1199 (.iload 4) 1201, rX 1201 (.iconst 1) 1202 1 0 0, r0 1202 (.iadd) 1203, r0 1203 (.iaload) 1204, r0 1204 (.aload_n 0) 1205, r0 1205 (.iload 4) 1207, rX 1207 (.iconst 2) 1208 2 0 0, r0 1208 (.iadd) 1209,
  r0 1209 (.iaload) 1210, rX 1210 (.invokevirtual 161) 1213 119 0 972, r0 1213 (.aload_n 2) 1214, r0 1214 (.aload_n 0) 1215, r0 1215 (.iload 4) 1217, rX 1217 (.iconst 1) 1218 1 0 0, r0 1218 (.iadd) 1219, r0 1219 (.iaload) 1220,
  r0 1220 (.aload_n 0) 1221, r0 1221 (.iload 4) 1223, rX 1223 (.iconst 2) 1224 2 0 0, r0 1224 (.iadd) 1225, r0 1225 (.iaload) 1226, rX 1226 (.invokevirtual 164) 1229 242 0 1763, rX 1229 (.if_icmp .eq 549) 1232 1778 0 0, r0 1232 (.iconst 0) 1233,
  r0 1233 (.ireturn) 1234, r0 1234 (.aload_n 1) 1235, r0 1235 (.aload_n 0) 1236, r0 1236 (.iload 4) 1238, rX 1238 (.iconst 1) 1239 1 0 0, r0 1239 (.iadd) 1240, r0 1240 (.iaload) 1241, rX 1241 (.invokevirtual 165) 1244 120 0 976]
def T_l_law_14 : List Row := [r0 1244 (.aload_n 2) 1245, r0 1245 (.aload_n 0) 1246, r0 1246 (.iload 4) 1248, rX 1248 (.iconst 1) 1249 1 0 0, r0 1249 (.iadd) 1250, r0 1250 (.iaload) 1251, rX 1251 (.invokevirtual 168) 1254 248 0 1767, rX 1254 (.if_icmp .eq 524) 1257 1778 0 0,
  r0 1257 (.iconst 0) 1258, r0 1258 (.ireturn) 1259, r0 1259 (.aload_n 1) 1260, rX 1260 (.invokevirtual 169) 1263 121 0 984, r0 1263 (.aload_n 2) 1264, rX 1264 (.invokevirtual 172) 1267 249 0 1771, rX 1267 (.if_icmp .eq 511) 1270 1778 0 0, r0 1270 (.iconst 0) 1271,
  r0 1271 (.ireturn) 1272, r0 1272 (.aload_n 1) 1273, rX 1273 (.invokevirtual 173) 1276 122 0 988, r0 1276 (.aload_n 2) 1277, rX 1277 (.invokevirtual 176) 1280 250 0 1792, rX 1280 (.if_icmp .eq 498) 1283 1778 0 0, r0 1283 (.iconst 0) 1284, r0 1284 (.ireturn) 1285,
  r0 1285 (.aload_n 1) 1286, r0 1286 (.aload_n 0) 1287, r0 1287 (.iload 4) 1289, rX 1289 (.iconst 1) 1290 1 0 0, r0 1290 (.iadd) 1291, r0 1291 (.iaload) 1292, r0 1292 (.aload_n 0) 1293, r0 1293 (.iload 4) 1295,
  rX 1295 (.iconst 2) 1296 2 0 0, r0 1296 (.iadd) 1297, r0 1297 (.iaload) 1298, rX 1298 (.ifCond .eq 7) 1301 1305 0 0, rX 1301 (.iconst 1) 1302 1 0 0, rX 1302 (.goto 4) 1305 1306 0 0, r0 1305 (.iconst 0) 1306, rX 1306 (.invokevirtual 177) 1309 123 0 992,
  r0 1309 (.aload_n 2) 1310, r0 1310 (.aload_n 0) 1311, r0 1311 (.iload 4) 1313, rX 1313 (.iconst 1) 1314 1 0 0, r0 1314 (.iadd) 1315, r0 1315 (.iaload) 1316, r0 1316 (.aload_n 0) 1317, r0 1317 (.iload 4) 1319]
def T_l_law_15 : List Row := [rX 1319 (.iconst 2) 1320 2 0 0, r0 1320 (.iadd) 1321, r0 1321 (.iaload) 1322, rX 1322 (.ifCond .eq 7) 1325 1329 0 0, rX 1325 (.iconst 1) 1326 1 0 0, rX 1326 (.goto 4) 1329 1330 0 0, r0 1329 (.iconst 0) 1330, rX 1330 (.invokevirtual 180) 1333 251 0 1800,
  r0 1333 (.lcmp) 1334, rX 1334 (.ifCond .eq 444) 1337 1778 0 0, r0 1337 (.iconst 0) 1338, r0 1338 (.ireturn) 1339, r0 1339 (.aload_n 1) 1340, r0 1340 (.aload_n 0) 1341, r0 1341 (.iload 4) 1343, rX 1343 (.iconst 1) 1344 1 0 0,
  r0 1344 (.iadd) 1345, r0 1345 (.iaload) 1346, r0 1346 (.aload_n 0) 1347, r0 1347 (.iload 4) 1349, rX 1349 (.iconst 2) 1350 2 0 0, r0 1350 (.iadd) 1351, r0 1351 (.iaload) 1352, r0 1352 (.aload_n 0) 1353,
  r0 1353 (.iload 4) 1355, rX 1355 (.iconst 3) 1356 3 0 0, r0 1356 (.iadd) 1357, r0 1357 (.iaload) 1358, rX 1358 (.ifCond .eq 7) 1361 1365 0 0, rX 1361 (.iconst 1) 1362 1 0 0, rX 1362 (.goto 4) 1365 1366 0 0, r0 1365 (.iconst 0) 1366,
  rX 1366 (.invokevirtual 181) 1369 124 0 1013, r0 1369 (.aload_n 2) 1370, r0 1370 (.aload_n 0) 1371, r0 1371 (.iload 4) 1373, rX 1373 (.iconst 1) 1374 1 0 0, r0 1374 (.iadd) 1375, r0 1375 (.iaload) 1376, r0 1376 (.aload_n 0) 1377,
  r0 1377 (.iload 4) 1379, rX 1379 (.iconst 2) 1380 2 0 0, r0 1380 (.iadd) 1381, r0 1381 (.iaload) 1382, r0 1382 (.aload_n 0) 1383, r0 1383 (.iload 4) 1385, rX 1385 (.iconst 3) 1386 3 0 0, r0 1386 (.iadd) 1387]
def T_l_law_16 : List Row := [r0 1387 (.iaload) 1388, rX 1388 (.ifCond .eq 7) 1391 1395 0 0, rX 1391 (.iconst 1) 1392 1 0 0, rX 1392 (.goto 4) 1395 1396 0 0, r0 1395 (.iconst 0) 1396, rX 1396 (.invokevirtual 185) 1399 252 0 1804, r0 1399 (.lcmp) 1400, rX 1400 (.ifCond .eq 378) 1403 1778 0 0,
  r0 1403 (.iconst 0) 1404, r0 1404 (.ireturn) 1405, r0 1405 (.aload_n 1) 1406, r0 1406 (.aload_n 0) 1407, r0 1407 (.iload 4) 1409, rX 1409 (.iconst 1) 1410 1 0 0, r0 1410 (.iadd) 1411, r0 1411 (.iaload) 1412,
  r0 1412 (.aload_n 0) 1413, r0 1413 (.iload 4) 1415, rX 1415 (.iconst 2) 1416 2 0 0, r0 1416 (.iadd) 1417, r0 1417 (.iaload) 1418, rX 1418 (.ifCond .eq 7) 1421 1425 0 0, rX 1421 (.iconst 1) 1422 1 0 0, rX 1422 (.goto 4) 1425 1426 0 0,
  r0 1425 (.iconst 0) 1426, rX 1426 (.invokevirtual 186) 1429 125 0 1018, r0 1429 (.aload_n 2) 1430, r0 1430 (.aload_n 0) 1431, r0 1431 (.iload 4) 1433, rX 1433 (.iconst 1) 1434 1 0 0, r0 1434 (.iadd) 1435, r0 1435 (.iaload) 1436,
  r0 1436 (.aload_n 0) 1437, r0 1437 (.iload 4) 1439, rX 1439 (.iconst 2) 1440 2 0 0, r0 1440 (.iadd) 1441, r0 1441 (.iaload) 1442, rX 1442 (.ifCond .eq 7) 1445 1449 0 0, rX 1445 (.iconst 1) 1446 1 0 0, rX 1446 (.goto 4) 1449 1450 0 0,
  r0 1449 (.iconst 0) 1450, rX 1450 (.invokevirtual 189) 1453 254 0 1808, r0 1453 (.lcmp) 1454, rX 1454 (.ifCond .eq 324) 1457 1778 0 0, r0 1457 (.iconst 0) 1458, r0 1458 (.ireturn) 1459, r0 1459 (.aload_n 1) 1460, rX 1460 (.invokevirtual 190) 1463 126 0 1026]
def T_l_law_17 : List Row := [r0 1463 (.aload_n 2) 1464, rX 1464 (.invokevirtual 193) 1467 255 0 1816, rX 1467 (.if_icmp .eq 311) 1470 1778 0 0, r0 1470 (.iconst 0) 1471, r0 1471 (.ireturn) 1472, r0 1472 (.aload_n 1) 1473, rX 1473 (.invokevirtual 194) 1476 127 0 1030, r0 1476 (.aload_n 2) 1477,
  rX 1477 (.invokevirtual 197) 1480 256 0 1820, rX 1480 (.if_icmp .eq 298) 1483 1778 0 0, r0 1483 (.iconst 0) 1484, r0 1484 (.ireturn) 1485, r0 1485 (.aload_n 1) 1486, rX 1486 (.invokevirtual 198) 1489 128 0 1039, r0 1489 (.aload_n 2) 1490, rX 1490 (.invokevirtual 201) 1493 260 0 1824,
  rX 1493 (.if_icmp .eq 285) 1496 1778 0 0, r0 1496 (.iconst 0) 1497, r0 1497 (.ireturn) 1498, r0 1498 (.aload_n 1) 1499, r0 1499 (.aload_n 0) 1500, r0 1500 (.iload 4) 1502, rX 1502 (.iconst 1) 1503 1 0 0, r0 1503 (.iadd) 1504,
  r0 1504 (.iaload) 1505, rX 1505 (.invokevirtual 202) 1508 129 0 1072, r0 1508 (.aload_n 2) 1509, r0 1509 (.aload_n 0) 1510, r0 1510 (.iload 4) 1512, rX 1512 (.iconst 1) 1513 1 0 0, r0 1513 (.iadd) 1514, r0 1514 (.iaload) 1515,
  rX 1515 (.invokevirtual 205) 1518 261 0 1841, rX 1518 (.if_icmp .eq 260) 1521 1778 0 0, r0 1521 (.iconst 0) 1522, r0 1522 (.ireturn) 1523, r0 1523 (.aload_n 1) 1524, r0 1524 (.aload_n 0) 1525, r0 1525 (.iload 4) 1527, rX 1527 (.iconst 1) 1528 1 0 0,
  r0 1528 (.iadd) 1529, r0 1529 (.iaload) 1530, r0 1530 (.aload_n 0) 1531, r0 1531 (.iload 4) 1533, rX 1533 (.iconst 2) 1534 2 0 0, r0 1534 (.iadd) 1535, r0 1535 (.iaload) 1536, r0 1536 (.aload_n 0) 1537]
def T_l_law_18 : List Row := [r0 1537 (.iload 4) 1539, rX 1539 (.iconst 3) 1540 3 0 0, r0 1540 (.iadd) 1541, r0 1541 (.iaload) 1542, rX 1542 (.invokevirtual 206) 1545 130 0 1076, r0 1545 (.aload_n 2) 1546, r0 1546 (.aload_n 0) 1547, r0 1547 (.iload 4) 1549,
  rX 1549 (.iconst 1) 1550 1 0 0, r0 1550 (.iadd) 1551, r0 1551 (.iaload) 1552, r0 1552 (.aload_n 0) 1553, r0 1553 (.iload 4) 1555, rX 1555 (.iconst 2) 1556 2 0 0, r0 1556 (.iadd) 1557, r0 1557 (.iaload) 1558,
  r0 1558 (.aload_n 0) 1559, r0 1559 (.iload 4) 1561, rX 1561 (.iconst 3) 1562 3 0 0, r0 1562 (.iadd) 1563, r0 1563 (.iaload) 1564, rX 1564 (.invokevirtual 210) 1567 262 0 1845, rX 1567 (.if_icmp .eq 211) 1570 1778 0 0, r0 1570 (.iconst 0) 1571,
  r0 1571 (.ireturn) 1572, r0 1572 (.aload_n 1) 1573, r0 1573 (.aload_n 0) 1574, r0 1574 (.iload 4) 1576, rX 1576 (.iconst 1) 1577 1 0 0, r0 1577 (.iadd) 1578, r0 1578 (.iaload) 1579, r0 1579 (.aload_n 0) 1580,
  r0 1580 (.iload 4) 1582, rX 1582 (.iconst 2) 1583 2 0 0, r0 1583 (.iadd) 1584, r0 1584 (.iaload) 1585, rX 1585 (.invokevirtual 211) 1588 131 0 1080, r0 1588 (.aload_n 2) 1589, r0 1589 (.aload_n 0) 1590, r0 1590 (.iload 4) 1592,
  rX 1592 (.iconst 1) 1593 1 0 0, r0 1593 (.iadd) 1594, r0 1594 (.iaload) 1595, r0 1595 (.aload_n 0) 1596, r0 1596 (.iload 4) 1598, rX 1598 (.iconst 2) 1599 2 0 0, r0 1599 (.iadd) 1600, r0 1600 (.iaload) 1601]
def T_l_law_19 : List Row := [rX 1601 (.invokevirtual 214) 1604 266 0 1849, rX 1604 (.if_icmp .eq 174) 1607 1778 0 0, r0 1607 (.iconst 0) 1608, r0 1608 (.ireturn) 1609, r0 1609 (.aload_n 1) 1610, r0 1610 (.aload_n 0) 1611, r0 1611 (.iload 4) 1613, rX 1613 (.iconst 1) 1614 1 0 0,
  r0 1614 (.iadd) 1615, r0 1615 (.iaload) 1616, r0 1616 (.aload_n 0) 1617, r0 1617 (.iload 4) 1619, rX 1619 (.iconst 2) 1620 2 0 0, r0 1620 (.iadd) 1621, r0 1621 (.iaload) 1622, rX 1622 (.invokevirtual 215) 1625 132 0 1093,
  r0 1625 (.aload_n 2) 1626, r0 1626 (.aload_n 0) 1627, r0 1627 (.iload 4) 1629, rX 1629 (.iconst 1) 1630 1 0 0, r0 1630 (.iadd) 1631, r0 1631 (.iaload) 1632, r0 1632 (.aload_n 0) 1633, r0 1633 (.iload 4) 1635,
  rX 1635 (.iconst 2) 1636 2 0 0, r0 1636 (.iadd) 1637, r0 1637 (.iaload) 1638, rX 1638 (.invokevirtual 218) 1641 267 0 1861, rX 1641 (.if_icmp .eq 137) 1644 1778 0 0, r0 1644 (.iconst 0) 1645, r0 1645 (.ireturn) 1646, r0 1646 (.aload_n 1) 1647,
  r0 1647 (.aload_n 0) 1648, r0 1648 (.iload 4) 1650, rX 1650 (.iconst 1) 1651 1 0 0, r0 1651 (.iadd) 1652, r0 1652 (.iaload) 1653, rX 1653 (.invokevirtual 219) 1656 133 0 1098, r0 1656 (.aload_n 2) 1657, r0 1657 (.aload_n 0) 1658,
  r0 1658 (.iload 4) 1660, rX 1660 (.iconst 1) 1661 1 0 0, r0 1661 (.iadd) 1662, r0 1662 (.iaload) 1663, rX 1663 (.invokevirtual 222) 1666 268 0 1865, rX 1666 (.if_icmp .eq 112) 1669 1778 0 0, r0 1669 (.iconst 0) 1670, r0 1670 (.ireturn) 1671]
def T_l_law_20 : List Row := [r0 1671 (.aload_n 1) 1672, rX 1672 (.invokevirtual 223) 1675 134 0 1102, r0 1675 (.aload_n 2) 1676, rX 1676 (.invokevirtual 227) 1679 269 0 1869, rX 1679 (.if_icmp .eq 99) 1682 1778 0 0, r0 1682 (.iconst 0) 1683, r0 1683 (.ireturn) 1684, r0 1684 (.aload_n 1) 1685,
  r0 1685 (.aload_n 0) 1686, r0 1686 (.iload 4) 1688, rX 1688 (.iconst 1) 1689 1 0 0, r0 1689 (.iadd) 1690, r0 1690 (.iaload) 1691, r0 1691 (.aload_n 3) 1692, rX 1692 (.invokestatic 228) 1695 9999 9 0, r0 1695 (.istore 5) 1697,
  r0 1697 (.aload_n 2) 1698, r0 1698 (.aload_n 0) 1699, r0 1699 (.iload 4) 1701, rX 1701 (.iconst 1) 1702 1 0 0, r0 1702 (.iadd) 1703, r0 1703 (.iaload) 1704, rX 1704 (.invokevirtual 233) 1707 270 0 1873, r0 1707 (.istore 6) 1709,
  r0 1709 (.aload_n 2) 1710, rX 1710 (.invokevirtual 234) 1713 147 0 1363, r0 1713 (.iload 5) 1715, rX 1715 (.if_icmp .eq 5) 1718 1720 0 0, r0 1718 (.iconst 0) 1719, r0 1719 (.ireturn) 1720, r0 1720 (.iload 5) 1722, rX 1722 (.ifCond .ne 15) 1725 1737 0 0,
  r0 1725 (.aload_n 3) 1726, r0 1726 (.iconst 0) 1727, r0 1727 (.laload) 1728, r0 1728 (.iload 6) 1730, r0 1730 (.i2l) 1731, r0 1731 (.lcmp) 1732, rX 1732 (.ifCond .eq 5) 1735 1737 0 0, r0 1735 (.iconst 0) 1736,
  r0 1736 (.ireturn) 1737, rX 1737 (.goto 41) 1740 1778 0 0, r0 1740 (.aload_n 1) 1741, r0 1741 (.aload_n 0) 1742, r0 1742 (.iload 4) 1744, rX 1744 (.iconst 1) 1745 1 0 0, r0 1745 (.iadd) 1746, r0 1746 (.iaload) 1747]
def T_l_law_21 : List Row := [rX 1747 (.invokevirtual 237) 1750 136 0 1112, r0 1750 (.aload_n 2) 1751, r0 1751 (.aload_n 0) 1752, r0 1752 (.iload 4) 1754, rX 1754 (.iconst 1) 1755 1 0 0, r0 1755 (.iadd) 1756, r0 1756 (.iaload) 1757, rX 1757 (.invokevirtual 240) 1760 271 0 1877,
  rX 1760 (.if_icmp .eq 18) 1763 1778 0 0, r0 1763 (.iconst 0) 1764, r0 1764 (.ireturn) 1765, r0 1765 (.aload_n 1) 1766, rX 1766 (.invokevirtual 241) 1769 137 0 1116, r0 1769 (.aload_n 2) 1770, rX 1770 (.invokevirtual 244) 1773 272 0 1881, rX 1773 (.if_icmp .eq 5) 1776 1778 0 0,
  r0 1776 (.iconst 0) 1777, r0 1777 (.ireturn) 1778, rX 1778 (.iinc 4 6) 1781 6 0 0, rX 1781 (.goto (-1758)) 1784 23 0 0, rX 1784 (.iconst 1) 1785 1 0 0, r0 1785 (.ireturn) 1786]
def T_l_law : List Row := T_l_law_0 ++ (T_l_law_1 ++ (T_l_law_2 ++ (T_l_law_3 ++ (T_l_law_4 ++ (T_l_law_5 ++ (T_l_law_6 ++ (T_l_law_7 ++ (T_l_law_8 ++ (T_l_law_9 ++ (T_l_law_10 ++ (T_l_law_11 ++ (T_l_law_12 ++ (T_l_law_13 ++ (T_l_law_14 ++ (T_l_law_15 ++ (T_l_law_16 ++ (T_l_law_17 ++ (T_l_law_18 ++ (T_l_law_19 ++ (T_l_law_20 ++ (T_l_law_21)))))))))))))))))))))
def M_ac_init : MT := (⟨"WeighingPlates$Acts", "<init>", "()V"⟩, prog_2_method_1_code, 1, none, T_ac_init, 1, 0, 2, 8, 407, 119, 406, 0)
def M_ac_clear : MT := (⟨"WeighingPlates$Acts", "clear", "()V"⟩, prog_2_method_2_code, 1, none, T_ac_clear, 1, 0, 0, 8, 660, 119, 658, 659)
def M_ac_note : MT := (⟨"WeighingPlates$Acts", "note", "(III)V"⟩, prog_2_method_3_code, 4, none, T_ac_note, 2, 3, 0, 8, 1087, 119, 1085, 1086)
def M_ac_dropOldest : MT := (⟨"WeighingPlates$Acts", "dropOldest", "()V"⟩, prog_2_method_4_code, 2, none, T_ac_dropOldest, 1, 0, 0, 8, 1091, 119, 1090, 42)
def M_ac_takeBack : MT := (⟨"WeighingPlates$Acts", "takeBack", "(LWeighingPlates$Bench;)V"⟩, prog_2_method_5_code, 3, none, T_ac_takeBack, 2, 1, 0, 8, 1109, 119, 1107, 1108)
def M_bn_init : MT := (⟨"WeighingPlates$Bench", "<init>", "()V"⟩, prog_3_method_1_code, 1, none, T_bn_init, 1, 0, 2, 3, 166, 114, 165, 0)
def M_bn_clear : MT := (⟨"WeighingPlates$Bench", "clear", "()V"⟩, prog_3_method_2_code, 2, none, T_bn_clear, 1, 0, 0, 3, 489, 114, 487, 488)
def M_bn_makeDoubled : MT := (⟨"WeighingPlates$Bench", "makeDoubled", "(I)V"⟩, prog_3_method_3_code, 5, none, T_bn_makeDoubled, 2, 1, 0, 3, 591, 114, 589, 590)
def M_bn_makeSquares : MT := (⟨"WeighingPlates$Bench", "makeSquares", "(I)V"⟩, prog_3_method_4_code, 6, none, T_bn_makeSquares, 1, 1, 0, 3, 602, 114, 600, 601)
def M_bn_has : MT := (⟨"WeighingPlates$Bench", "has", "(I)Z"⟩, prog_3_method_5_code, 2, some .boolean, T_bn_has, 1, 1, 0, 3, 619, 114, 617, 618)
def M_bn_hasMask : MT := (⟨"WeighingPlates$Bench", "hasMask", "(I)Z"⟩, prog_3_method_6_code, 2, some .boolean, T_bn_hasMask, 1, 1, 0, 3, 983, 114, 981, 982)
def M_bn_isSet : MT := (⟨"WeighingPlates$Bench", "isSet", "(I)Z"⟩, prog_3_method_7_code, 2, some .boolean, T_bn_isSet, 1, 1, 0, 3, 735, 114, 733, 734)
def M_bn_isLost : MT := (⟨"WeighingPlates$Bench", "isLost", "(I)Z"⟩, prog_3_method_8_code, 2, some .boolean, T_bn_isLost, 1, 1, 0, 3, 769, 114, 767, 768)
def M_bn_lostCount : MT := (⟨"WeighingPlates$Bench", "lostCount", "()I"⟩, prog_3_method_9_code, 1, some .int, T_bn_lostCount, 2, 0, 0, 3, 644, 114, 642, 643)
def M_bn_order : MT := (⟨"WeighingPlates$Bench", "order", "()J"⟩, prog_3_method_10_code, 1, some .long, T_bn_order, 1, 0, 0, 3, 843, 114, 841, 842)
def M_bn_orderSquared : MT := (⟨"WeighingPlates$Bench", "orderSquared", "()J"⟩, prog_3_method_11_code, 1, some .long, T_bn_orderSquared, 2, 0, 0, 3, 881, 114, 879, 880)
def M_bn_half : MT := (⟨"WeighingPlates$Bench", "half", "()I"⟩, prog_3_method_12_code, 1, some .int, T_bn_half, 1, 0, 0, 3, 705, 114, 703, 704)
def M_bn_monitor : MT := (⟨"WeighingPlates$Bench", "monitor", "()I"⟩, prog_3_method_13_code, 3, some .int, T_bn_monitor, 1, 0, 0, 3, 701, 114, 699, 700)
def M_bn_shutterOf : MT := (⟨"WeighingPlates$Bench", "shutterOf", "(I)I"⟩, prog_3_method_14_code, 2, some .int, T_bn_shutterOf, 1, 1, 0, 3, 756, 114, 754, 755)
def M_bn_setShutter : MT := (⟨"WeighingPlates$Bench", "setShutter", "(II)V"⟩, prog_3_method_15_code, 3, none, T_bn_setShutter, 1, 2, 0, 3, 630, 114, 628, 629)
def M_bn_readOf : MT := (⟨"WeighingPlates$Bench", "readOf", "(I)I"⟩, prog_3_method_16_code, 5, some .int, T_bn_readOf, 1, 1, 0, 3, 781, 114, 779, 780)
def M_bn_aloneOf : MT := (⟨"WeighingPlates$Bench", "aloneOf", "(I)I"⟩, prog_3_method_17_code, 2, some .int, T_bn_aloneOf, 2, 1, 0, 3, 909, 114, 907, 908)
def M_mt_init : MT := (⟨"WeighingPlates$MaskTable", "<init>", "()V"⟩, prog_4_method_1_code, 1, none, T_mt_init, 1, 0, 2, 6, 348, 117, 347, 0)
def M_mt_build : MT := (⟨"WeighingPlates$MaskTable", "build", "(LWeighingPlates$Bench;)V"⟩, prog_4_method_2_code, 3, none, T_mt_build, 3, 1, 0, 6, 664, 117, 662, 663)
def M_mt_tells : MT := (⟨"WeighingPlates$MaskTable", "tells", "(I)Z"⟩, prog_4_method_3_code, 2, some .boolean, T_mt_tells, 1, 1, 0, 6, 1003, 117, 1001, 1002)
def M_mt_times : MT := (⟨"WeighingPlates$MaskTable", "times", "(II)J"⟩, prog_4_method_4_code, 3, some .long, T_mt_times, 1, 2, 0, 6, 1011, 117, 1009, 1010)
def M_mt_squares : MT := (⟨"WeighingPlates$MaskTable", "squares", "(LWeighingPlates$Bench;I)J"⟩, prog_4_method_5_code, 6, some .long, T_mt_squares, 2, 2, 0, 6, 1025, 117, 1023, 1024)
def M_mt_sumOfLooks : MT := (⟨"WeighingPlates$MaskTable", "sumOfLooks", "(LWeighingPlates$Bench;I)J"⟩, prog_4_method_6_code, 6, some .long, T_mt_sumOfLooks, 2, 2, 0, 6, 1007, 117, 1005, 1006)
def M_mt_allAgree : MT := (⟨"WeighingPlates$MaskTable", "allAgree", "(LWeighingPlates$Bench;)Z"⟩, prog_4_method_7_code, 3, some .boolean, T_mt_allAgree, 3, 1, 0, 6, 1037, 117, 1035, 1036)
def M_mt_load : MT := (⟨"WeighingPlates$MaskTable", "load", "(LWeighingPlates$Bench;I)V"⟩, prog_4_method_8_code, 7, none, T_mt_load, 1, 2, 0, 6, 668, 117, 667, 16)
def M_mt_firstColour : MT := (⟨"WeighingPlates$MaskTable", "firstColour", "(LWeighingPlates$Bench;I)I"⟩, prog_4_method_9_code, 4, some .int, T_mt_firstColour, 1, 2, 0, 6, 672, 117, 671, 17)
def M_mt_clearPivot : MT := (⟨"WeighingPlates$MaskTable", "clearPivot", "(II)V"⟩, prog_4_method_10_code, 11, none, T_mt_clearPivot, 1, 2, 0, 6, 676, 117, 675, 18)
def M_mt_findTold : MT := (⟨"WeighingPlates$MaskTable", "findTold", "(LWeighingPlates$Bench;)V"⟩, prog_4_method_11_code, 3, none, T_mt_findTold, 2, 1, 0, 6, 680, 117, 679, 19)
def M_mt_hasOnlyPivot : MT := (⟨"WeighingPlates$MaskTable", "hasOnlyPivot", "(LWeighingPlates$Bench;I)Z"⟩, prog_4_method_12_code, 4, some .boolean, T_mt_hasOnlyPivot, 1, 2, 0, 6, 684, 117, 683, 20)
def M_ra_part : MT := (⟨"WeighingPlates$Ratio", "part", "(JJZ)J"⟩, prog_5_method_2_code, 7, some .long, T_ra_part, 2, 3, 1, 99, 846, 127, 845, 0)
def M_ra_isWhole : MT := (⟨"WeighingPlates$Ratio", "isWhole", "(JJ)Z"⟩, prog_5_method_3_code, 4, some .boolean, T_ra_isWhole, 1, 2, 1, 99, 859, 127, 858, 0)
def M_ra_commonDivisor : MT := (⟨"WeighingPlates$Ratio", "commonDivisor", "(JJ)J"⟩, prog_5_method_4_code, 11, some .long, T_ra_commonDivisor, 1, 2, 1, 99, 852, 127, 851, 0)
def M_rd_init : MT := (⟨"WeighingPlates$Reader", "<init>", "()V"⟩, prog_6_method_1_code, 1, none, T_rd_init, 2, 0, 2, 2, 160, 113, 159, 0)
def M_rd_readAll : MT := (⟨"WeighingPlates$Reader", "readAll", "([II)Z"⟩, prog_6_method_2_code, 4, some .boolean, T_rd_readAll, 9, 2, 0, 2, 485, 113, 483, 484)
def M_rd_fail : MT := (⟨"WeighingPlates$Reader", "fail", "(I)Z"⟩, prog_6_method_3_code, 2, some .boolean, T_rd_fail, 1, 1, 0, 2, 565, 113, 564, 6)
def M_rd_next : MT := (⟨"WeighingPlates$Reader", "next", "()V"⟩, prog_6_method_4_code, 3, none, T_rd_next, 2, 0, 0, 2, 496, 113, 495, 1)
def M_rd_runOf : MT := (⟨"WeighingPlates$Reader", "runOf", "(CC)I"⟩, prog_6_method_5_code, 4, some .int, T_rd_runOf, 1, 2, 0, 2, 500, 113, 499, 2)
def M_rd_wholeOf : MT := (⟨"WeighingPlates$Reader", "wholeOf", "(I)I"⟩, prog_6_method_6_code, 4, some .int, T_rd_wholeOf, 1, 1, 0, 2, 504, 113, 503, 3)
def M_rd_isWord : MT := (⟨"WeighingPlates$Reader", "isWord", "(Ljava/lang/String;)Z"⟩, prog_6_method_7_code, 3, some .boolean, T_rd_isWord, 5, 1, 0, 2, 513, 113, 512, 5)
def M_rd_takeWord : MT := (⟨"WeighingPlates$Reader", "takeWord", "(Ljava/lang/String;)Z"⟩, prog_6_method_8_code, 2, some .boolean, T_rd_takeWord, 6, 1, 0, 2, 585, 113, 584, 9)
def M_rd_takeWhole : MT := (⟨"WeighingPlates$Reader", "takeWhole", "(II)Z"⟩, prog_6_method_9_code, 3, some .boolean, T_rd_takeWhole, 3, 2, 0, 2, 580, 113, 579, 8)
def M_rd_takeNew : MT := (⟨"WeighingPlates$Reader", "takeNew", "(I)Z"⟩, prog_6_method_10_code, 2, some .boolean, T_rd_takeNew, 4, 1, 0, 2, 615, 113, 614, 11)
def M_rd_takeLine : MT := (⟨"WeighingPlates$Reader", "takeLine", "()Z"⟩, prog_6_method_11_code, 2, some .boolean, T_rd_takeLine, 8, 0, 0, 2, 508, 113, 507, 4)
def M_rd_takeBench : MT := (⟨"WeighingPlates$Reader", "takeBench", "()Z"⟩, prog_6_method_12_code, 3, some .boolean, T_rd_takeBench, 7, 0, 0, 2, 569, 113, 568, 7)
def M_rd_isPrimeOfBench : MT := (⟨"WeighingPlates$Reader", "isPrimeOfBench", "(I)Z"⟩, prog_6_method_13_code, 5, some .boolean, T_rd_isPrimeOfBench, 1, 1, 1, 2, 574, 113, 573, 0)
def M_rd_takeLight : MT := (⟨"WeighingPlates$Reader", "takeLight", "()Z"⟩, prog_6_method_14_code, 2, some .boolean, T_rd_takeLight, 5, 0, 0, 2, 611, 113, 610, 10)
def M_rd_takeStuck : MT := (⟨"WeighingPlates$Reader", "takeStuck", "()Z"⟩, prog_6_method_15_code, 3, some .boolean, T_rd_takeStuck, 6, 0, 0, 2, 623, 113, 622, 12)
def M_rd_takeNoise : MT := (⟨"WeighingPlates$Reader", "takeNoise", "()Z"⟩, prog_6_method_16_code, 3, some .boolean, T_rd_takeNoise, 6, 0, 0, 2, 634, 113, 633, 13)
def M_rd_takeLost : MT := (⟨"WeighingPlates$Reader", "takeLost", "()Z"⟩, prog_6_method_17_code, 1, some .boolean, T_rd_takeLost, 5, 0, 0, 2, 640, 113, 639, 14)
def M_rd_takeMask : MT := (⟨"WeighingPlates$Reader", "takeMask", "()Z"⟩, prog_6_method_18_code, 3, some .boolean, T_rd_takeMask, 5, 0, 0, 2, 648, 113, 647, 15)
def M_sg_init : MT := (⟨"WeighingPlates$Sight", "<init>", "()V"⟩, prog_7_method_1_code, 1, none, T_sg_init, 1, 0, 2, 4, 285, 115, 284, 0)
def M_sg_startAnew : MT := (⟨"WeighingPlates$Sight", "startAnew", "()V"⟩, prog_7_method_2_code, 1, none, T_sg_startAnew, 2, 0, 0, 4, 652, 115, 650, 651)
def M_sg_forget : MT := (⟨"WeighingPlates$Sight", "forget", "()V"⟩, prog_7_method_3_code, 1, none, T_sg_forget, 1, 0, 0, 4, 656, 115, 654, 655)
def M_sg_lookAt : MT := (⟨"WeighingPlates$Sight", "lookAt", "(LWeighingPlates$Bench;I)I"⟩, prog_7_method_4_code, 4, some .int, T_sg_lookAt, 2, 2, 0, 4, 777, 115, 775, 776)
def M_sg_keep : MT := (⟨"WeighingPlates$Sight", "keep", "(II)V"⟩, prog_7_method_5_code, 4, none, T_sg_keep, 1, 2, 0, 4, 785, 115, 783, 784)
def M_sg_scanAll : MT := (⟨"WeighingPlates$Sight", "scanAll", "(LWeighingPlates$Bench;)I"⟩, prog_7_method_6_code, 5, some .int, T_sg_scanAll, 4, 1, 0, 4, 797, 115, 795, 796)
def M_sg_findNets : MT := (⟨"WeighingPlates$Sight", "findNets", "(LWeighingPlates$Bench;)V"⟩, prog_7_method_7_code, 5, none, T_sg_findNets, 3, 1, 0, 4, 803, 115, 802, 24)
def M_sg_findBacks : MT := (⟨"WeighingPlates$Sight", "findBacks", "(LWeighingPlates$Bench;)V"⟩, prog_7_method_8_code, 6, none, T_sg_findBacks, 1, 1, 0, 4, 810, 115, 809, 25)
def M_sg_errorOf : MT := (⟨"WeighingPlates$Sight", "errorOf", "(LWeighingPlates$Bench;I)J"⟩, prog_7_method_9_code, 3, some .long, T_sg_errorOf, 2, 2, 0, 4, 871, 115, 869, 870)
def M_su_init : MT := (⟨"WeighingPlates$Suspicion", "<init>", "()V"⟩, prog_8_method_1_code, 1, none, T_su_init, 1, 0, 2, 5, 337, 116, 336, 0)
def M_su_count : MT := (⟨"WeighingPlates$Suspicion", "count", "(LWeighingPlates$Bench;LWeighingPlates$Sight;)I"⟩, prog_8_method_2_code, 5, some .int, T_su_count, 4, 2, 0, 5, 930, 116, 928, 929)
def M_su_numberOf : MT := (⟨"WeighingPlates$Suspicion", "numberOf", "(ILWeighingPlates$Bench;LWeighingPlates$Sight;)I"⟩, prog_8_method_3_code, 6, some .int, T_su_numberOf, 4, 3, 0, 5, 971, 116, 969, 970)
def M_su_holds : MT := (⟨"WeighingPlates$Suspicion", "holds", "(ILWeighingPlates$Bench;LWeighingPlates$Sight;)Z"⟩, prog_8_method_4_code, 5, some .boolean, T_su_holds, 3, 3, 0, 5, 934, 116, 933, 29)
def M_su_supposeFine : MT := (⟨"WeighingPlates$Suspicion", "supposeFine", "(LWeighingPlates$Bench;LWeighingPlates$Sight;)Z"⟩, prog_8_method_5_code, 4, some .boolean, T_su_supposeFine, 2, 2, 0, 5, 938, 116, 937, 30)
def M_su_supposeOpen : MT := (⟨"WeighingPlates$Suspicion", "supposeOpen", "(ILWeighingPlates$Bench;LWeighingPlates$Sight;)Z"⟩, prog_8_method_6_code, 8, some .boolean, T_su_supposeOpen, 2, 3, 0, 5, 958, 116, 957, 34)
def M_su_supposeShut : MT := (⟨"WeighingPlates$Suspicion", "supposeShut", "(ILWeighingPlates$Bench;LWeighingPlates$Sight;)Z"⟩, prog_8_method_7_code, 7, some .boolean, T_su_supposeShut, 2, 3, 0, 5, 963, 116, 962, 35)
def M_su_put : MT := (⟨"WeighingPlates$Suspicion", "put", "(IJJ)Z"⟩, prog_8_method_8_code, 8, some .boolean, T_su_put, 1, 3, 0, 5, 943, 116, 942, 31)
def M_su_sumIsRight : MT := (⟨"WeighingPlates$Suspicion", "sumIsRight", "(LWeighingPlates$Bench;)Z"⟩, prog_8_method_9_code, 4, some .boolean, T_su_sumIsRight, 2, 1, 0, 5, 948, 116, 947, 32)
def M_su_logIsRight : MT := (⟨"WeighingPlates$Suspicion", "logIsRight", "(LWeighingPlates$Bench;LWeighingPlates$Sight;II)Z"⟩, prog_8_method_10_code, 9, some .boolean, T_su_logIsRight, 1, 4, 0, 5, 953, 116, 952, 33)
def M_tp_init : MT := (⟨"WeighingPlates$Tape", "<init>", "()V"⟩, prog_9_method_1_code, 1, none, T_tp_init, 1, 0, 2, 1, 144, 112, 143, 0)
def M_tp_hasRoom : MT := (⟨"WeighingPlates$Tape", "hasRoom", "()Z"⟩, prog_9_method_2_code, 1, some .boolean, T_tp_hasRoom, 1, 0, 0, 1, 469, 112, 467, 468)
def M_tp_put : MT := (⟨"WeighingPlates$Tape", "put", "(I)V"⟩, prog_9_method_3_code, 3, none, T_tp_put, 1, 1, 0, 1, 473, 112, 471, 472)
def M_tr_init : MT := (⟨"WeighingPlates$Tour", "<init>", "()V"⟩, prog_10_method_1_code, 1, none, T_tr_init, 1, 0, 2, 7, 379, 118, 378, 0)
def M_tr_find : MT := (⟨"WeighingPlates$Tour", "find", "(LWeighingPlates$Bench;)V"⟩, prog_10_method_2_code, 4, none, T_tr_find, 5, 1, 0, 7, 1046, 118, 1044, 1045)
def M_tr_findSteps : MT := (⟨"WeighingPlates$Tour", "findSteps", "(LWeighingPlates$Bench;)V"⟩, prog_10_method_3_code, 5, none, T_tr_findSteps, 2, 1, 0, 7, 1051, 118, 1050, 37)
def M_tr_fewestFrom : MT := (⟨"WeighingPlates$Tour", "fewestFrom", "(II)I"⟩, prog_10_method_4_code, 6, some .int, T_tr_fewestFrom, 2, 2, 0, 7, 1056, 118, 1055, 38)
def M_tr_movesBy : MT := (⟨"WeighingPlates$Tour", "movesBy", "(III)I"⟩, prog_10_method_5_code, 4, some .int, T_tr_movesBy, 1, 3, 0, 7, 1060, 118, 1059, 39)
def M_tr_walk : MT := (⟨"WeighingPlates$Tour", "walk", "()V"⟩, prog_10_method_6_code, 5, none, T_tr_walk, 4, 0, 0, 7, 1067, 118, 1066, 40)
def M_tr_nextOf : MT := (⟨"WeighingPlates$Tour", "nextOf", "(II)I"⟩, prog_10_method_7_code, 5, some .int, T_tr_nextOf, 3, 2, 0, 7, 1071, 118, 1070, 41)
def M_w_init : MT := (⟨"WeighingPlates", "<init>", "()V"⟩, prog_1_method_1_code, 1, none, T_w_init, 3, 0, 2, 0, 136, 111, 135, 0)
def M_w_feed : MT := (⟨"WeighingPlates", "feed", "(IIIII)I"⟩, prog_1_method_2_code, 6, some .int, T_w_feed, 2, 5, 0, 0, 465, 111, 463, 464)
def M_w_bench : MT := (⟨"WeighingPlates", "bench", "(I)I"⟩, prog_1_method_3_code, 4, some .int, T_w_bench, 10, 1, 0, 0, 477, 111, 475, 476)
def M_w_fault : MT := (⟨"WeighingPlates", "fault", "()I"⟩, prog_1_method_4_code, 1, some .int, T_w_fault, 1, 0, 0, 0, 689, 111, 687, 688)
def M_w_where : MT := (⟨"WeighingPlates", "where", "()I"⟩, prog_1_method_5_code, 1, some .int, T_w_where, 1, 0, 0, 0, 693, 111, 691, 692)
def M_w_about : MT := (⟨"WeighingPlates", "about", "(I)I"⟩, prog_1_method_6_code, 2, some .int, T_w_about, 2, 1, 0, 0, 697, 111, 695, 696)
def M_w_plate : MT := (⟨"WeighingPlates", "plate", "(I)I"⟩, prog_1_method_7_code, 2, some .int, T_w_plate, 3, 1, 0, 0, 709, 111, 707, 708)
def M_w_common : MT := (⟨"WeighingPlates", "common", "(II)I"⟩, prog_1_method_8_code, 3, some .int, T_w_common, 2, 2, 0, 0, 718, 111, 716, 717)
def M_w_which : MT := (⟨"WeighingPlates", "which", "(I)I"⟩, prog_1_method_9_code, 3, some .int, T_w_which, 4, 1, 0, 0, 723, 111, 721, 722)
def M_w_apart : MT := (⟨"WeighingPlates", "apart", "(I)I"⟩, prog_1_method_10_code, 4, some .int, T_w_apart, 3, 1, 0, 0, 739, 111, 737, 738)
def M_w_odd : MT := (⟨"WeighingPlates", "odd", "(I)I"⟩, prog_1_method_11_code, 4, some .int, T_w_odd, 4, 1, 0, 0, 744, 111, 742, 743)
def M_w_light : MT := (⟨"WeighingPlates", "light", "(I)I"⟩, prog_1_method_12_code, 2, some .int, T_w_light, 3, 1, 0, 0, 748, 111, 746, 747)
def M_w_shutter : MT := (⟨"WeighingPlates", "shutter", "(I)I"⟩, prog_1_method_13_code, 2, some .int, T_w_shutter, 3, 1, 0, 0, 752, 111, 750, 751)
def M_w_noise : MT := (⟨"WeighingPlates", "noise", "(I)I"⟩, prog_1_method_14_code, 2, some .int, T_w_noise, 3, 1, 0, 0, 760, 111, 758, 759)
def M_w_lost : MT := (⟨"WeighingPlates", "lost", "(I)I"⟩, prog_1_method_15_code, 2, some .int, T_w_lost, 3, 1, 0, 0, 765, 111, 763, 764)
def M_w_look : MT := (⟨"WeighingPlates", "look", "(I)I"⟩, prog_1_method_16_code, 3, some .int, T_w_look, 4, 1, 0, 0, 773, 111, 771, 772)
def M_w_logged : MT := (⟨"WeighingPlates", "logged", "(II)I"⟩, prog_1_method_17_code, 4, some .int, T_w_logged, 2, 2, 0, 0, 789, 111, 787, 788)
def M_w_scan : MT := (⟨"WeighingPlates", "scan", "()I"⟩, prog_1_method_18_code, 2, some .int, T_w_scan, 5, 0, 0, 0, 793, 111, 791, 792)
def M_w_blinds : MT := (⟨"WeighingPlates", "blinds", "()I"⟩, prog_1_method_19_code, 3, some .int, T_w_blinds, 3, 0, 0, 0, 816, 111, 814, 815)
def M_w_reading : MT := (⟨"WeighingPlates", "reading", "(I)I"⟩, prog_1_method_20_code, 2, some .int, T_w_reading, 3, 1, 0, 0, 821, 111, 819, 820)
def M_w_net : MT := (⟨"WeighingPlates", "net", "(I)I"⟩, prog_1_method_21_code, 3, some .int, T_w_net, 3, 1, 0, 0, 825, 111, 823, 824)
def M_w_back : MT := (⟨"WeighingPlates", "back", "(IZ)J"⟩, prog_1_method_22_code, 3, some .long, T_w_back, 5, 2, 0, 0, 830, 111, 828, 829)
def M_w_odds : MT := (⟨"WeighingPlates", "odds", "()I"⟩, prog_1_method_23_code, 3, some .int, T_w_odds, 4, 0, 0, 0, 856, 111, 854, 855)
def M_w_more : MT := (⟨"WeighingPlates", "more", "(Z)J"⟩, prog_1_method_24_code, 5, some .long, T_w_more, 4, 1, 0, 0, 863, 111, 861, 862)
def M_w_error : MT := (⟨"WeighingPlates", "error", "(IZ)J"⟩, prog_1_method_25_code, 3, some .long, T_w_error, 5, 2, 0, 0, 867, 111, 865, 866)
def M_w_errors : MT := (⟨"WeighingPlates", "errors", "(Z)J"⟩, prog_1_method_26_code, 7, some .long, T_w_errors, 4, 1, 0, 0, 877, 111, 875, 876)
def M_w_worst : MT := (⟨"WeighingPlates", "worst", "()I"⟩, prog_1_method_27_code, 7, some .int, T_w_worst, 4, 0, 0, 0, 886, 111, 884, 885)
def M_w_share : MT := (⟨"WeighingPlates", "share", "(Z)J"⟩, prog_1_method_28_code, 2, some .long, T_w_share, 3, 1, 0, 0, 892, 111, 890, 891)
def M_w_grains : MT := (⟨"WeighingPlates", "grains", "(Z)J"⟩, prog_1_method_29_code, 2, some .long, T_w_grains, 4, 1, 0, 0, 897, 111, 895, 896)
def M_w_better : MT := (⟨"WeighingPlates", "better", "()I"⟩, prog_1_method_30_code, 3, some .int, T_w_better, 4, 0, 0, 0, 901, 111, 899, 900)
def M_w_alone : MT := (⟨"WeighingPlates", "alone", "(I)I"⟩, prog_1_method_31_code, 2, some .int, T_w_alone, 3, 1, 0, 0, 905, 111, 903, 904)
def M_w_alones : MT := (⟨"WeighingPlates", "alones", "()J"⟩, prog_1_method_32_code, 6, some .long, T_w_alones, 3, 0, 0, 0, 914, 111, 912, 913)
def M_w_closer : MT := (⟨"WeighingPlates", "closer", "()I"⟩, prog_1_method_33_code, 5, some .int, T_w_closer, 4, 0, 0, 0, 918, 111, 916, 917)
def M_w_suspects : MT := (⟨"WeighingPlates", "suspects", "()I"⟩, prog_1_method_34_code, 1, some .int, T_w_suspects, 5, 0, 0, 0, 922, 111, 920, 921)
def M_w_suspect : MT := (⟨"WeighingPlates", "suspect", "(I)I"⟩, prog_1_method_35_code, 3, some .int, T_w_suspect, 5, 1, 0, 0, 967, 111, 965, 966)
def M_w_supposed : MT := (⟨"WeighingPlates", "supposed", "(II)I"⟩, prog_1_method_36_code, 4, some .int, T_w_supposed, 5, 2, 0, 0, 975, 111, 973, 974)
def M_w_mask : MT := (⟨"WeighingPlates", "mask", "(I)I"⟩, prog_1_method_37_code, 2, some .int, T_w_mask, 2, 1, 0, 0, 979, 111, 977, 978)
def M_w_rank : MT := (⟨"WeighingPlates", "rank", "()I"⟩, prog_1_method_38_code, 1, some .int, T_w_rank, 3, 0, 0, 0, 987, 111, 985, 986)
def M_w_told : MT := (⟨"WeighingPlates", "told", "()I"⟩, prog_1_method_39_code, 1, some .int, T_w_told, 3, 0, 0, 0, 991, 111, 989, 990)
def M_w_solved : MT := (⟨"WeighingPlates", "solved", "(IZ)J"⟩, prog_1_method_40_code, 3, some .long, T_w_solved, 4, 2, 0, 0, 995, 111, 993, 994)
def M_w_factor : MT := (⟨"WeighingPlates", "factor", "(IIZ)J"⟩, prog_1_method_41_code, 4, some .long, T_w_factor, 4, 3, 0, 0, 1016, 111, 1014, 1015)
def M_w_shareBy : MT := (⟨"WeighingPlates", "shareBy", "(IZ)J"⟩, prog_1_method_42_code, 3, some .long, T_w_shareBy, 4, 2, 0, 0, 1021, 111, 1019, 1020)
def M_w_fewer : MT := (⟨"WeighingPlates", "fewer", "()I"⟩, prog_1_method_43_code, 5, some .int, T_w_fewer, 3, 0, 0, 0, 1029, 111, 1027, 1028)
def M_w_agree : MT := (⟨"WeighingPlates", "agree", "()I"⟩, prog_1_method_44_code, 1, some .int, T_w_agree, 4, 0, 0, 0, 1033, 111, 1031, 1032)
def M_w_tour : MT := (⟨"WeighingPlates", "tour", "()I"⟩, prog_1_method_45_code, 1, some .int, T_w_tour, 6, 0, 0, 0, 1042, 111, 1040, 1041)
def M_w_tourAt : MT := (⟨"WeighingPlates", "tourAt", "(I)I"⟩, prog_1_method_46_code, 2, some .int, T_w_tourAt, 6, 1, 0, 0, 1075, 111, 1073, 1074)
def M_w_sign : MT := (⟨"WeighingPlates", "sign", "(III)I"⟩, prog_1_method_47_code, 5, some .int, T_w_sign, 2, 3, 0, 0, 1079, 111, 1077, 1078)
def M_w_shine : MT := (⟨"WeighingPlates", "shine", "(II)I"⟩, prog_1_method_48_code, 4, some .int, T_w_shine, 3, 2, 0, 0, 1083, 111, 1081, 1082)
def M_w_stick : MT := (⟨"WeighingPlates", "stick", "(II)I"⟩, prog_1_method_49_code, 4, some .int, T_w_stick, 3, 2, 0, 0, 1096, 111, 1094, 1095)
def M_w_lose : MT := (⟨"WeighingPlates", "lose", "(I)I"⟩, prog_1_method_50_code, 2, some .int, T_w_lose, 3, 1, 0, 0, 1101, 111, 1099, 1100)
def M_w_undo : MT := (⟨"WeighingPlates", "undo", "()Z"⟩, prog_1_method_51_code, 1, some .boolean, T_w_undo, 3, 0, 0, 0, 1105, 111, 1103, 1104)
def M_w_stuck : MT := (⟨"WeighingPlates", "stuck", "(I)I"⟩, prog_1_method_52_code, 4, some .int, T_w_stuck, 11, 1, 0, 0, 1127, 111, 1125, 1126)
def M_w_size : MT := (⟨"WeighingPlates", "size", "(I)I"⟩, prog_1_method_53_code, 2, some .int, T_w_size, 3, 1, 0, 0, 1115, 111, 1113, 1114)
def M_w_trouble : MT := (⟨"WeighingPlates", "trouble", "()I"⟩, prog_1_method_54_code, 1, some .int, T_w_trouble, 1, 0, 0, 0, 1119, 111, 1117, 1118)
def M_w_settle : MT := (⟨"WeighingPlates", "settle", "(I)Z"⟩, prog_1_method_55_code, 2, some .boolean, T_w_settle, 1, 1, 0, 0, 481, 111, 480, 0)
def M_w_haveBench : MT := (⟨"WeighingPlates", "haveBench", "()Z"⟩, prog_1_method_56_code, 1, some .boolean, T_w_haveBench, 2, 0, 0, 0, 731, 111, 730, 23)
def M_w_haveOne : MT := (⟨"WeighingPlates", "haveOne", "(I)Z"⟩, prog_1_method_57_code, 2, some .boolean, T_w_haveOne, 2, 1, 0, 0, 713, 111, 712, 21)
def M_w_haveSet : MT := (⟨"WeighingPlates", "haveSet", "(I)Z"⟩, prog_1_method_58_code, 2, some .boolean, T_w_haveSet, 3, 1, 0, 0, 727, 111, 726, 22)
def M_w_haveBacks : MT := (⟨"WeighingPlates", "haveBacks", "()Z"⟩, prog_1_method_59_code, 1, some .boolean, T_w_haveBacks, 3, 0, 0, 0, 838, 111, 837, 27)
def M_w_haveBackOf : MT := (⟨"WeighingPlates", "haveBackOf", "(I)Z"⟩, prog_1_method_60_code, 2, some .boolean, T_w_haveBackOf, 4, 1, 0, 0, 834, 111, 833, 26)
def M_w_haveSuspects : MT := (⟨"WeighingPlates", "haveSuspects", "()Z"⟩, prog_1_method_61_code, 1, some .boolean, T_w_haveSuspects, 3, 0, 0, 0, 926, 111, 925, 28)
def M_w_haveTold : MT := (⟨"WeighingPlates", "haveTold", "(I)Z"⟩, prog_1_method_62_code, 2, some .boolean, T_w_haveTold, 3, 1, 0, 0, 999, 111, 998, 36)
def M_r_init : MT := (⟨"WeighingPlatesModel", "<init>", "()V"⟩, prog_12_method_1_code, 1, none, T_r_init, 1, 0, 2, 9, 1197, 120, 1196, 0)
def M_r_thrown : MT := (⟨"WeighingPlatesModel", "thrown", "()I"⟩, prog_12_method_2_code, 1, some .int, T_r_thrown, 1, 0, 0, 9, 1366, 120, 1364, 1365)
def M_r_refused : MT := (⟨"WeighingPlatesModel", "refused", "(I)I"⟩, prog_12_method_3_code, 2, some .int, T_r_refused, 1, 1, 0, 9, 1378, 120, 1377, 44)
def M_r_refusedLong : MT := (⟨"WeighingPlatesModel", "refusedLong", "(I)J"⟩, prog_12_method_4_code, 2, some .long, T_r_refusedLong, 2, 1, 0, 9, 1632, 120, 1631, 81)
def M_r_good : MT := (⟨"WeighingPlatesModel", "good", "(I)I"⟩, prog_12_method_5_code, 2, some .int, T_r_good, 1, 1, 0, 9, 1508, 120, 1507, 70)
def M_r_in : MT := (⟨"WeighingPlatesModel", "in", "(III)Z"⟩, prog_12_method_6_code, 3, some .boolean, T_r_in, 1, 3, 1, 9, 1393, 120, 1392, 0)
def M_r_has : MT := (⟨"WeighingPlatesModel", "has", "(II)Z"⟩, prog_12_method_7_code, 2, some .boolean, T_r_has, 1, 2, 1, 9, 1461, 120, 1460, 0)
def M_r_many : MT := (⟨"WeighingPlatesModel", "many", "(I)I"⟩, prog_12_method_8_code, 3, some .int, T_r_many, 1, 1, 1, 9, 1527, 120, 1526, 0)
def M_r_divisor : MT := (⟨"WeighingPlatesModel", "divisor", "(JJ)J"⟩, prog_12_method_9_code, 10, some .long, T_r_divisor, 1, 2, 1, 9, 1650, 120, 1649, 0)
def M_r_sets : MT := (⟨"WeighingPlatesModel", "sets", "(JJ)V"⟩, prog_12_method_10_code, 7, none, T_r_sets, 2, 2, 0, 9, 1647, 120, 1646, 84)
def M_r_part : MT := (⟨"WeighingPlatesModel", "part", "(Z)J"⟩, prog_12_method_11_code, 2, some .long, T_r_part, 2, 1, 0, 9, 1654, 120, 1653, 85)
def M_r_byteAt : MT := (⟨"WeighingPlatesModel", "byteAt", "(I)I"⟩, prog_12_method_12_code, 2, some .int, T_r_byteAt, 1, 1, 0, 9, 1390, 120, 1389, 47)
def M_r_next : MT := (⟨"WeighingPlatesModel", "next", "()V"⟩, prog_12_method_13_code, 2, none, T_r_next, 3, 0, 0, 9, 1386, 120, 1385, 46)
def M_r_nextWord : MT := (⟨"WeighingPlatesModel", "nextWord", "()V"⟩, prog_12_method_14_code, 1, none, T_r_nextWord, 2, 0, 0, 9, 1397, 120, 1396, 48)
def M_r_nextWhole : MT := (⟨"WeighingPlatesModel", "nextWhole", "()V"⟩, prog_12_method_15_code, 1, none, T_r_nextWhole, 2, 0, 0, 9, 1401, 120, 1400, 49)
def M_r_nextSign : MT := (⟨"WeighingPlatesModel", "nextSign", "(I)V"⟩, prog_12_method_16_code, 2, none, T_r_nextSign, 1, 1, 0, 9, 1405, 120, 1404, 50)
def M_r_flaw : MT := (⟨"WeighingPlatesModel", "flaw", "(I)V"⟩, prog_12_method_17_code, 2, none, T_r_flaw, 1, 1, 0, 9, 1424, 120, 1423, 54)
def M_r_isWord : MT := (⟨"WeighingPlatesModel", "isWord", "(Ljava/lang/String;)Z"⟩, prog_12_method_18_code, 5, some .boolean, T_r_isWord, 5, 1, 0, 9, 1414, 120, 1413, 52)
def M_r_needs : MT := (⟨"WeighingPlatesModel", "needs", "(Ljava/lang/String;)V"⟩, prog_12_method_19_code, 2, none, T_r_needs, 6, 1, 0, 9, 1443, 120, 1442, 58)
def M_r_wholeAt : MT := (⟨"WeighingPlatesModel", "wholeAt", "(II)I"⟩, prog_12_method_20_code, 3, some .int, T_r_wholeAt, 2, 2, 0, 9, 1434, 120, 1433, 56)
def M_r_readWhole : MT := (⟨"WeighingPlatesModel", "readWhole", "(II)I"⟩, prog_12_method_21_code, 4, some .int, T_r_readWhole, 4, 2, 0, 9, 1430, 120, 1429, 55)
def M_r_readNew : MT := (⟨"WeighingPlatesModel", "readNew", "(I)I"⟩, prog_12_method_22_code, 3, some .int, T_r_readNew, 4, 1, 0, 9, 1458, 120, 1457, 61)
def M_r_readAll : MT := (⟨"WeighingPlatesModel", "readAll", "()V"⟩, prog_12_method_23_code, 2, none, T_r_readAll, 9, 0, 0, 9, 1382, 120, 1381, 45)
def M_r_readLine : MT := (⟨"WeighingPlatesModel", "readLine", "()V"⟩, prog_12_method_24_code, 1, none, T_r_readLine, 8, 0, 0, 9, 1409, 120, 1408, 51)
def M_r_begins : MT := (⟨"WeighingPlatesModel", "begins", "(Z)V"⟩, prog_12_method_25_code, 2, none, T_r_begins, 4, 1, 0, 9, 1454, 120, 1453, 60)
def M_r_readBench : MT := (⟨"WeighingPlatesModel", "readBench", "()V"⟩, prog_12_method_26_code, 5, none, T_r_readBench, 7, 0, 0, 9, 1420, 120, 1419, 53)
def M_r_readOrder : MT := (⟨"WeighingPlatesModel", "readOrder", "()I"⟩, prog_12_method_27_code, 2, some .int, T_r_readOrder, 4, 0, 0, 9, 1438, 120, 1437, 57)
def M_r_readLight : MT := (⟨"WeighingPlatesModel", "readLight", "()V"⟩, prog_12_method_28_code, 3, none, T_r_readLight, 5, 0, 0, 9, 1450, 120, 1449, 59)
def M_r_readStuckOne : MT := (⟨"WeighingPlatesModel", "readStuckOne", "()V"⟩, prog_12_method_29_code, 3, none, T_r_readStuckOne, 6, 0, 0, 9, 1466, 120, 1465, 62)
def M_r_readNoiseOf : MT := (⟨"WeighingPlatesModel", "readNoiseOf", "()V"⟩, prog_12_method_30_code, 4, none, T_r_readNoiseOf, 6, 0, 0, 9, 1473, 120, 1472, 63)
def M_r_readLost : MT := (⟨"WeighingPlatesModel", "readLost", "()V"⟩, prog_12_method_31_code, 2, none, T_r_readLost, 5, 0, 0, 9, 1480, 120, 1479, 64)
def M_r_readMaskOf : MT := (⟨"WeighingPlatesModel", "readMaskOf", "()V"⟩, prog_12_method_32_code, 3, none, T_r_readMaskOf, 5, 0, 0, 9, 1485, 120, 1484, 65)
def M_r_feed : MT := (⟨"WeighingPlatesModel", "feed", "(IIIII)I"⟩, prog_12_method_33_code, 8, some .int, T_r_feed, 1, 5, 0, 9, 1370, 120, 1368, 1369)
def M_r_bench : MT := (⟨"WeighingPlatesModel", "bench", "(I)I"⟩, prog_12_method_34_code, 2, some .int, T_r_bench, 10, 1, 0, 9, 1374, 120, 1372, 1373)
def M_r_takesOver : MT := (⟨"WeighingPlatesModel", "takesOver", "()V"⟩, prog_12_method_35_code, 2, none, T_r_takesOver, 3, 0, 0, 9, 1489, 120, 1488, 66)
def M_r_laysDoubled : MT := (⟨"WeighingPlatesModel", "laysDoubled", "()V"⟩, prog_12_method_36_code, 4, none, T_r_laysDoubled, 2, 0, 0, 9, 1493, 120, 1492, 67)
def M_r_laysSquares : MT := (⟨"WeighingPlatesModel", "laysSquares", "()V"⟩, prog_12_method_37_code, 4, none, T_r_laysSquares, 1, 0, 0, 9, 1500, 120, 1499, 68)
def M_r_fault : MT := (⟨"WeighingPlatesModel", "fault", "()I"⟩, prog_12_method_38_code, 1, some .int, T_r_fault, 1, 0, 0, 9, 1512, 120, 1510, 1511)
def M_r_where : MT := (⟨"WeighingPlatesModel", "where", "()I"⟩, prog_12_method_39_code, 1, some .int, T_r_where, 1, 0, 0, 9, 1516, 120, 1514, 1515)
def M_r_monitor : MT := (⟨"WeighingPlatesModel", "monitor", "()I"⟩, prog_12_method_40_code, 3, some .int, T_r_monitor, 1, 0, 0, 9, 1524, 120, 1523, 71)
def M_r_about : MT := (⟨"WeighingPlatesModel", "about", "(I)I"⟩, prog_12_method_41_code, 2, some .int, T_r_about, 2, 1, 0, 9, 1520, 120, 1518, 1519)
def M_r_isOne : MT := (⟨"WeighingPlatesModel", "isOne", "(I)Z"⟩, prog_12_method_42_code, 2, some .boolean, T_r_isOne, 1, 1, 0, 9, 1535, 120, 1534, 72)
def M_r_isSet : MT := (⟨"WeighingPlatesModel", "isSet", "(I)Z"⟩, prog_12_method_43_code, 2, some .boolean, T_r_isSet, 1, 1, 0, 9, 1547, 120, 1546, 73)
def M_r_plate : MT := (⟨"WeighingPlatesModel", "plate", "(I)I"⟩, prog_12_method_44_code, 2, some .int, T_r_plate, 2, 1, 0, 9, 1531, 120, 1529, 1530)
def M_r_common : MT := (⟨"WeighingPlatesModel", "common", "(II)I"⟩, prog_12_method_45_code, 3, some .int, T_r_common, 2, 2, 0, 9, 1539, 120, 1537, 1538)
def M_r_which : MT := (⟨"WeighingPlatesModel", "which", "(I)I"⟩, prog_12_method_46_code, 3, some .int, T_r_which, 2, 1, 0, 9, 1543, 120, 1541, 1542)
def M_r_apart : MT := (⟨"WeighingPlatesModel", "apart", "(I)I"⟩, prog_12_method_47_code, 5, some .int, T_r_apart, 2, 1, 0, 9, 1551, 120, 1549, 1550)
def M_r_odd : MT := (⟨"WeighingPlatesModel", "odd", "(I)I"⟩, prog_12_method_48_code, 4, some .int, T_r_odd, 2, 1, 0, 9, 1555, 120, 1553, 1554)
def M_r_light : MT := (⟨"WeighingPlatesModel", "light", "(I)I"⟩, prog_12_method_49_code, 2, some .int, T_r_light, 2, 1, 0, 9, 1559, 120, 1557, 1558)
def M_r_shutter : MT := (⟨"WeighingPlatesModel", "shutter", "(I)I"⟩, prog_12_method_50_code, 2, some .int, T_r_shutter, 2, 1, 0, 9, 1563, 120, 1561, 1562)
def M_r_noise : MT := (⟨"WeighingPlatesModel", "noise", "(I)I"⟩, prog_12_method_51_code, 2, some .int, T_r_noise, 2, 1, 0, 9, 1567, 120, 1565, 1566)
def M_r_lost : MT := (⟨"WeighingPlatesModel", "lost", "(I)I"⟩, prog_12_method_52_code, 2, some .int, T_r_lost, 2, 1, 0, 9, 1572, 120, 1570, 1571)
def M_r_ends : MT := (⟨"WeighingPlatesModel", "ends", "()V"⟩, prog_12_method_53_code, 1, none, T_r_ends, 1, 0, 0, 9, 1504, 120, 1503, 69)
def M_r_through : MT := (⟨"WeighingPlatesModel", "through", "(I)I"⟩, prog_12_method_54_code, 5, some .int, T_r_through, 2, 1, 0, 9, 1584, 120, 1583, 75)
def M_r_looks : MT := (⟨"WeighingPlatesModel", "looks", "(I)I"⟩, prog_12_method_55_code, 3, some .int, T_r_looks, 3, 1, 0, 9, 1580, 120, 1579, 74)
def M_r_look : MT := (⟨"WeighingPlatesModel", "look", "(I)I"⟩, prog_12_method_56_code, 4, some .int, T_r_look, 4, 1, 0, 9, 1576, 120, 1574, 1575)
def M_r_logged : MT := (⟨"WeighingPlatesModel", "logged", "(II)I"⟩, prog_12_method_57_code, 3, some .int, T_r_logged, 2, 2, 0, 9, 1588, 120, 1586, 1587)
def M_r_scan : MT := (⟨"WeighingPlatesModel", "scan", "()I"⟩, prog_12_method_58_code, 4, some .int, T_r_scan, 4, 0, 0, 9, 1592, 120, 1590, 1591)
def M_r_blinds : MT := (⟨"WeighingPlatesModel", "blinds", "()I"⟩, prog_12_method_59_code, 3, some .int, T_r_blinds, 3, 0, 0, 9, 1596, 120, 1594, 1595)
def M_r_refusedLow : MT := (⟨"WeighingPlatesModel", "refusedLow", "(I)I"⟩, prog_12_method_60_code, 2, some .int, T_r_refusedLow, 2, 1, 0, 9, 1604, 120, 1603, 76)
def M_r_reading : MT := (⟨"WeighingPlatesModel", "reading", "(I)I"⟩, prog_12_method_61_code, 2, some .int, T_r_reading, 3, 1, 0, 9, 1600, 120, 1598, 1599)
def M_r_losses : MT := (⟨"WeighingPlatesModel", "losses", "()I"⟩, prog_12_method_62_code, 1, some .int, T_r_losses, 2, 0, 0, 9, 1612, 120, 1611, 77)
def M_r_netSum : MT := (⟨"WeighingPlatesModel", "netSum", "()I"⟩, prog_12_method_63_code, 3, some .int, T_r_netSum, 2, 0, 0, 9, 1620, 120, 1619, 79)
def M_r_netOf : MT := (⟨"WeighingPlatesModel", "netOf", "(I)I"⟩, prog_12_method_64_code, 2, some .int, T_r_netOf, 3, 1, 0, 9, 1616, 120, 1615, 78)
def M_r_net : MT := (⟨"WeighingPlatesModel", "net", "(I)I"⟩, prog_12_method_65_code, 2, some .int, T_r_net, 4, 1, 0, 9, 1608, 120, 1606, 1607)
def M_r_refuses : MT := (⟨"WeighingPlatesModel", "refuses", "(Z)I"⟩, prog_12_method_66_code, 2, some .int, T_r_refuses, 3, 1, 0, 9, 1628, 120, 1627, 80)
def M_r_netAll : MT := (⟨"WeighingPlatesModel", "netAll", "()I"⟩, prog_12_method_67_code, 1, some .int, T_r_netAll, 3, 0, 0, 9, 1643, 120, 1642, 83)
def M_r_partsOf : MT := (⟨"WeighingPlatesModel", "partsOf", "(I)J"⟩, prog_12_method_68_code, 5, some .long, T_r_partsOf, 4, 1, 0, 9, 1637, 120, 1636, 82)
def M_r_errorParts : MT := (⟨"WeighingPlatesModel", "errorParts", "(I)J"⟩, prog_12_method_69_code, 2, some .long, T_r_errorParts, 5, 1, 0, 9, 1666, 120, 1665, 86)
def M_r_back : MT := (⟨"WeighingPlatesModel", "back", "(IZ)J"⟩, prog_12_method_70_code, 4, some .long, T_r_back, 5, 2, 0, 9, 1624, 120, 1622, 1623)
def M_r_odds : MT := (⟨"WeighingPlatesModel", "odds", "()I"⟩, prog_12_method_71_code, 4, some .int, T_r_odds, 5, 0, 0, 9, 1658, 120, 1656, 1657)
def M_r_more : MT := (⟨"WeighingPlatesModel", "more", "(Z)J"⟩, prog_12_method_72_code, 6, some .long, T_r_more, 6, 1, 0, 9, 1662, 120, 1660, 1661)
def M_r_error : MT := (⟨"WeighingPlatesModel", "error", "(IZ)J"⟩, prog_12_method_73_code, 4, some .long, T_r_error, 6, 2, 0, 9, 1670, 120, 1668, 1669)
def M_r_errors : MT := (⟨"WeighingPlatesModel", "errors", "(Z)J"⟩, prog_12_method_74_code, 6, some .long, T_r_errors, 6, 1, 0, 9, 1674, 120, 1672, 1673)
def M_r_plain : MT := (⟨"WeighingPlatesModel", "plain", "(J)J"⟩, prog_12_method_75_code, 2, some .long, T_r_plain, 1, 1, 1, 9, 1681, 120, 1680, 0)
def M_r_worst : MT := (⟨"WeighingPlatesModel", "worst", "()I"⟩, prog_12_method_76_code, 4, some .int, T_r_worst, 6, 0, 0, 9, 1678, 120, 1676, 1677)
def M_r_share : MT := (⟨"WeighingPlatesModel", "share", "(Z)J"⟩, prog_12_method_77_code, 2, some .long, T_r_share, 3, 1, 0, 9, 1685, 120, 1683, 1684)
def M_r_grains : MT := (⟨"WeighingPlatesModel", "grains", "(Z)J"⟩, prog_12_method_78_code, 3, some .long, T_r_grains, 4, 1, 0, 9, 1689, 120, 1687, 1688)
def M_r_better : MT := (⟨"WeighingPlatesModel", "better", "()I"⟩, prog_12_method_79_code, 4, some .int, T_r_better, 5, 0, 0, 9, 1693, 120, 1691, 1692)
def M_r_aloneOf : MT := (⟨"WeighingPlatesModel", "aloneOf", "(I)I"⟩, prog_12_method_80_code, 2, some .int, T_r_aloneOf, 3, 1, 0, 9, 1701, 120, 1700, 87)
def M_r_offAlone : MT := (⟨"WeighingPlatesModel", "offAlone", "(I)J"⟩, prog_12_method_81_code, 2, some .long, T_r_offAlone, 4, 1, 0, 9, 1709, 120, 1708, 88)
def M_r_alone : MT := (⟨"WeighingPlatesModel", "alone", "(I)I"⟩, prog_12_method_82_code, 2, some .int, T_r_alone, 4, 1, 0, 9, 1697, 120, 1695, 1696)
def M_r_alones : MT := (⟨"WeighingPlatesModel", "alones", "()J"⟩, prog_12_method_83_code, 4, some .long, T_r_alones, 5, 0, 0, 9, 1705, 120, 1703, 1704)
def M_r_closer : MT := (⟨"WeighingPlatesModel", "closer", "()I"⟩, prog_12_method_84_code, 4, some .int, T_r_closer, 6, 0, 0, 9, 1713, 120, 1711, 1712)
def M_r_isSuspect : MT := (⟨"WeighingPlatesModel", "isSuspect", "(I)Z"⟩, prog_12_method_85_code, 3, some .boolean, T_r_isSuspect, 7, 1, 0, 9, 1725, 120, 1724, 90)
def M_r_supposes : MT := (⟨"WeighingPlatesModel", "supposes", "(IJ)Z"⟩, prog_12_method_86_code, 4, some .boolean, T_r_supposes, 1, 2, 0, 9, 1733, 120, 1732, 92)
def M_r_supposesFine : MT := (⟨"WeighingPlatesModel", "supposesFine", "()Z"⟩, prog_12_method_87_code, 3, some .boolean, T_r_supposesFine, 5, 0, 0, 9, 1729, 120, 1728, 91)
def M_r_supposesOpen : MT := (⟨"WeighingPlatesModel", "supposesOpen", "(I)Z"⟩, prog_12_method_88_code, 6, some .boolean, T_r_supposesOpen, 5, 1, 0, 9, 1750, 120, 1749, 96)
def M_r_supposesShut : MT := (⟨"WeighingPlatesModel", "supposesShut", "(I)Z"⟩, prog_12_method_89_code, 6, some .boolean, T_r_supposesShut, 6, 1, 0, 9, 1754, 120, 1753, 97)
def M_r_areLights : MT := (⟨"WeighingPlatesModel", "areLights", "()Z"⟩, prog_12_method_90_code, 4, some .boolean, T_r_areLights, 2, 0, 0, 9, 1737, 120, 1736, 93)
def M_r_areSeen : MT := (⟨"WeighingPlatesModel", "areSeen", "(II)Z"⟩, prog_12_method_91_code, 4, some .boolean, T_r_areSeen, 3, 2, 0, 9, 1742, 120, 1741, 94)
def M_r_supposedRead : MT := (⟨"WeighingPlatesModel", "supposedRead", "(III)J"⟩, prog_12_method_92_code, 8, some .long, T_r_supposedRead, 2, 3, 0, 9, 1746, 120, 1745, 95)
def M_r_refusesSuspects : MT := (⟨"WeighingPlatesModel", "refusesSuspects", "(Z)I"⟩, prog_12_method_93_code, 2, some .int, T_r_refusesSuspects, 1, 1, 0, 9, 1721, 120, 1720, 89)
def M_r_suspectNumber : MT := (⟨"WeighingPlatesModel", "suspectNumber", "(I)I"⟩, prog_12_method_94_code, 4, some .int, T_r_suspectNumber, 8, 1, 0, 9, 1762, 120, 1761, 98)
def M_r_suspects : MT := (⟨"WeighingPlatesModel", "suspects", "()I"⟩, prog_12_method_95_code, 4, some .int, T_r_suspects, 8, 0, 0, 9, 1717, 120, 1715, 1716)
def M_r_suspect : MT := (⟨"WeighingPlatesModel", "suspect", "(I)I"⟩, prog_12_method_96_code, 4, some .int, T_r_suspect, 9, 1, 0, 9, 1758, 120, 1756, 1757)
def M_r_supposed : MT := (⟨"WeighingPlatesModel", "supposed", "(II)I"⟩, prog_12_method_97_code, 4, some .int, T_r_supposed, 9, 2, 0, 9, 1766, 120, 1764, 1765)
def M_r_puts : MT := (⟨"WeighingPlatesModel", "puts", "(IIJJ)V"⟩, prog_12_method_98_code, 7, none, T_r_puts, 3, 4, 0, 9, 1782, 120, 1781, 100)
def M_r_clears : MT := (⟨"WeighingPlatesModel", "clears", "(III)V"⟩, prog_12_method_99_code, 19, none, T_r_clears, 4, 3, 0, 9, 1786, 120, 1785, 101)
def M_r_laysRows : MT := (⟨"WeighingPlatesModel", "laysRows", "()V"⟩, prog_12_method_100_code, 3, none, T_r_laysRows, 6, 0, 0, 9, 1778, 120, 1777, 99)
def M_r_laysRow : MT := (⟨"WeighingPlatesModel", "laysRow", "(I)V"⟩, prog_12_method_101_code, 9, none, T_r_laysRow, 5, 1, 0, 9, 1790, 120, 1789, 102)
def M_r_rowOf : MT := (⟨"WeighingPlatesModel", "rowOf", "(I)I"⟩, prog_12_method_102_code, 5, some .int, T_r_rowOf, 1, 1, 0, 9, 1799, 120, 1798, 103)
def M_r_mask : MT := (⟨"WeighingPlatesModel", "mask", "(I)I"⟩, prog_12_method_103_code, 2, some .int, T_r_mask, 2, 1, 0, 9, 1770, 120, 1768, 1769)
def M_r_rank : MT := (⟨"WeighingPlatesModel", "rank", "()I"⟩, prog_12_method_104_code, 1, some .int, T_r_rank, 7, 0, 0, 9, 1774, 120, 1772, 1773)
def M_r_told : MT := (⟨"WeighingPlatesModel", "told", "()I"⟩, prog_12_method_105_code, 3, some .int, T_r_told, 7, 0, 0, 9, 1795, 120, 1793, 1794)
def M_r_solved : MT := (⟨"WeighingPlatesModel", "solved", "(IZ)J"⟩, prog_12_method_106_code, 4, some .long, T_r_solved, 7, 2, 0, 9, 1803, 120, 1801, 1802)
def M_r_factor : MT := (⟨"WeighingPlatesModel", "factor", "(IIZ)J"⟩, prog_12_method_107_code, 5, some .long, T_r_factor, 7, 3, 0, 9, 1807, 120, 1805, 1806)
def M_r_squaresOf : MT := (⟨"WeighingPlatesModel", "squaresOf", "(I)V"⟩, prog_12_method_108_code, 9, none, T_r_squaresOf, 3, 1, 0, 9, 1815, 120, 1814, 104)
def M_r_shareBy : MT := (⟨"WeighingPlatesModel", "shareBy", "(IZ)J"⟩, prog_12_method_109_code, 4, some .long, T_r_shareBy, 7, 2, 0, 9, 1811, 120, 1809, 1810)
def M_r_fewer : MT := (⟨"WeighingPlatesModel", "fewer", "()I"⟩, prog_12_method_110_code, 4, some .int, T_r_fewer, 7, 0, 0, 9, 1819, 120, 1817, 1818)
def M_r_agree : MT := (⟨"WeighingPlatesModel", "agree", "()I"⟩, prog_12_method_111_code, 1, some .int, T_r_agree, 7, 0, 0, 9, 1823, 120, 1821, 1822)
def M_r_movesTo : MT := (⟨"WeighingPlatesModel", "movesTo", "(II)I"⟩, prog_12_method_112_code, 3, some .int, T_r_movesTo, 2, 2, 0, 9, 1840, 120, 1839, 107)
def M_r_goes : MT := (⟨"WeighingPlatesModel", "goes", "(II)I"⟩, prog_12_method_113_code, 6, some .int, T_r_goes, 3, 2, 0, 9, 1835, 120, 1834, 106)
def M_r_laysTours : MT := (⟨"WeighingPlatesModel", "laysTours", "()V"⟩, prog_12_method_114_code, 3, none, T_r_laysTours, 4, 0, 0, 9, 1831, 120, 1830, 105)
def M_r_tour : MT := (⟨"WeighingPlatesModel", "tour", "()I"⟩, prog_12_method_115_code, 1, some .int, T_r_tour, 5, 0, 0, 9, 1827, 120, 1825, 1826)
def M_r_tourAt : MT := (⟨"WeighingPlatesModel", "tourAt", "(I)I"⟩, prog_12_method_116_code, 7, some .int, T_r_tourAt, 5, 1, 0, 9, 1844, 120, 1842, 1843)
def M_r_sign : MT := (⟨"WeighingPlatesModel", "sign", "(III)I"⟩, prog_12_method_117_code, 4, some .int, T_r_sign, 2, 3, 0, 9, 1848, 120, 1846, 1847)
def M_r_signAt : MT := (⟨"WeighingPlatesModel", "signAt", "(III)I"⟩, prog_12_method_118_code, 7, some .int, T_r_signAt, 1, 3, 1, 9, 1496, 120, 1495, 0)
def M_r_remembers : MT := (⟨"WeighingPlatesModel", "remembers", "()V"⟩, prog_12_method_119_code, 2, none, T_r_remembers, 2, 0, 0, 9, 1860, 120, 1859, 109)
def M_r_changed : MT := (⟨"WeighingPlatesModel", "changed", "(II)I"⟩, prog_12_method_120_code, 4, some .int, T_r_changed, 3, 2, 0, 9, 1856, 120, 1855, 108)
def M_r_shine : MT := (⟨"WeighingPlatesModel", "shine", "(II)I"⟩, prog_12_method_121_code, 3, some .int, T_r_shine, 4, 2, 0, 9, 1852, 120, 1850, 1851)
def M_r_stick : MT := (⟨"WeighingPlatesModel", "stick", "(II)I"⟩, prog_12_method_122_code, 3, some .int, T_r_stick, 4, 2, 0, 9, 1864, 120, 1862, 1863)
def M_r_lose : MT := (⟨"WeighingPlatesModel", "lose", "(I)I"⟩, prog_12_method_123_code, 2, some .int, T_r_lose, 4, 1, 0, 9, 1868, 120, 1866, 1867)
def M_r_undo : MT := (⟨"WeighingPlatesModel", "undo", "()Z"⟩, prog_12_method_124_code, 2, some .boolean, T_r_undo, 2, 0, 0, 9, 1872, 120, 1870, 1871)
def M_r_stuck : MT := (⟨"WeighingPlatesModel", "stuck", "(I)I"⟩, prog_12_method_125_code, 4, some .int, T_r_stuck, 1, 1, 0, 9, 1876, 120, 1874, 1875)
def M_r_size : MT := (⟨"WeighingPlatesModel", "size", "(I)I"⟩, prog_12_method_126_code, 2, some .int, T_r_size, 3, 1, 0, 9, 1880, 120, 1878, 1879)
def M_r_trouble : MT := (⟨"WeighingPlatesModel", "trouble", "()I"⟩, prog_12_method_127_code, 1, some .int, T_r_trouble, 1, 0, 0, 9, 1884, 120, 1882, 1883)
def M_ji_bitCount : MT := (⟨"java/lang/Integer", "bitCount", "(I)I"⟩, prog_17_method_49_code, 1, some .int, T_ji_bitCount, 1, 1, 1, 99, 595, 126, 594, 0)
def M_js_length : MT := (⟨"java/lang/String", "length", "()I"⟩, prog_20_method_54_code, 1, some .int, T_js_length, 2, 0, 0, 90, 517, 122, 515, 516)
def M_js_charAt : MT := (⟨"java/lang/String", "charAt", "(I)C"⟩, prog_20_method_56_code, 2, some .char, T_js_charAt, 4, 1, 0, 90, 527, 122, 525, 526)
def M_js_coder : MT := (⟨"java/lang/String", "coder", "()B"⟩, prog_20_method_152_code, 1, some .byte, T_js_coder, 1, 0, 0, 90, 521, 122, 519, 520)
def M_js_isLatin1 : MT := (⟨"java/lang/String", "isLatin1", "()Z"⟩, prog_20_method_154_code, 1, some .boolean, T_js_isLatin1, 1, 0, 0, 90, 531, 122, 529, 530)
def M_js_checkIndex : MT := (⟨"java/lang/String", "checkIndex", "(II)V"⟩, prog_20_method_155_code, 2, none, T_js_checkIndex, 2, 2, 1, 90, 537, 122, 536, 0)
def M_jl_charAt : MT := (⟨"java/lang/StringLatin1", "charAt", "([BI)C"⟩, prog_21_method_2_code, 2, some .char, T_jl_charAt, 3, 2, 1, 99, 534, 123, 533, 0)
def M_jp_checkIndex : MT := (⟨"jdk/internal/util/Preconditions", "checkIndex", "(IILjava/util/function/BiFunction;)I"⟩, prog_27_method_11_code, 3, some .int, T_jp_checkIndex, 1, 3, 1, 99, 542, 124, 541, 0)
def M_l_law : MT := (⟨"WeighingPlatesLaw", "law", "([I)Z"⟩, code, 7, some .boolean, T_l_law, 13, 1, 8, 99, 0, 0, 0, 0)
def mm : List MT := [M_ac_init, M_ac_clear, M_ac_note, M_ac_dropOldest, M_ac_takeBack, M_bn_init, M_bn_clear, M_bn_makeDoubled,
  M_bn_makeSquares, M_bn_has, M_bn_hasMask, M_bn_isSet, M_bn_isLost, M_bn_lostCount, M_bn_order, M_bn_orderSquared,
  M_bn_half, M_bn_monitor, M_bn_shutterOf, M_bn_setShutter, M_bn_readOf, M_bn_aloneOf, M_mt_init, M_mt_build,
  M_mt_tells, M_mt_times, M_mt_squares, M_mt_sumOfLooks, M_mt_allAgree, M_mt_load, M_mt_firstColour, M_mt_clearPivot,
  M_mt_findTold, M_mt_hasOnlyPivot, M_ra_part, M_ra_isWhole, M_ra_commonDivisor, M_rd_init, M_rd_readAll, M_rd_fail,
  M_rd_next, M_rd_runOf, M_rd_wholeOf, M_rd_isWord, M_rd_takeWord, M_rd_takeWhole, M_rd_takeNew, M_rd_takeLine,
  M_rd_takeBench, M_rd_isPrimeOfBench, M_rd_takeLight, M_rd_takeStuck, M_rd_takeNoise, M_rd_takeLost, M_rd_takeMask, M_sg_init,
  M_sg_startAnew, M_sg_forget, M_sg_lookAt, M_sg_keep, M_sg_scanAll, M_sg_findNets, M_sg_findBacks, M_sg_errorOf,
  M_su_init, M_su_count, M_su_numberOf, M_su_holds, M_su_supposeFine, M_su_supposeOpen, M_su_supposeShut, M_su_put,
  M_su_sumIsRight, M_su_logIsRight, M_tp_init, M_tp_hasRoom, M_tp_put, M_tr_init, M_tr_find, M_tr_findSteps,
  M_tr_fewestFrom, M_tr_movesBy, M_tr_walk, M_tr_nextOf, M_w_init, M_w_feed, M_w_bench, M_w_fault,
  M_w_where, M_w_about, M_w_plate, M_w_common, M_w_which, M_w_apart, M_w_odd, M_w_light,
  M_w_shutter, M_w_noise, M_w_lost, M_w_look, M_w_logged, M_w_scan, M_w_blinds, M_w_reading,
  M_w_net, M_w_back, M_w_odds, M_w_more, M_w_error, M_w_errors, M_w_worst, M_w_share,
  M_w_grains, M_w_better, M_w_alone, M_w_alones, M_w_closer, M_w_suspects, M_w_suspect, M_w_supposed,
  M_w_mask, M_w_rank, M_w_told, M_w_solved, M_w_factor, M_w_shareBy, M_w_fewer, M_w_agree,
  M_w_tour, M_w_tourAt, M_w_sign, M_w_shine, M_w_stick, M_w_lose, M_w_undo, M_w_stuck,
  M_w_size, M_w_trouble, M_w_settle, M_w_haveBench, M_w_haveOne, M_w_haveSet, M_w_haveBacks, M_w_haveBackOf,
  M_w_haveSuspects, M_w_haveTold, M_r_init, M_r_thrown, M_r_refused, M_r_refusedLong, M_r_good, M_r_in,
  M_r_has, M_r_many, M_r_divisor, M_r_sets, M_r_part, M_r_byteAt, M_r_next, M_r_nextWord,
  M_r_nextWhole, M_r_nextSign, M_r_flaw, M_r_isWord, M_r_needs, M_r_wholeAt, M_r_readWhole, M_r_readNew,
  M_r_readAll, M_r_readLine, M_r_begins, M_r_readBench, M_r_readOrder, M_r_readLight, M_r_readStuckOne, M_r_readNoiseOf,
  M_r_readLost, M_r_readMaskOf, M_r_feed, M_r_bench, M_r_takesOver, M_r_laysDoubled, M_r_laysSquares, M_r_fault,
  M_r_where, M_r_monitor, M_r_about, M_r_isOne, M_r_isSet, M_r_plate, M_r_common, M_r_which,
  M_r_apart, M_r_odd, M_r_light, M_r_shutter, M_r_noise, M_r_lost, M_r_ends, M_r_through,
  M_r_looks, M_r_look, M_r_logged, M_r_scan, M_r_blinds, M_r_refusedLow, M_r_reading, M_r_losses,
  M_r_netSum, M_r_netOf, M_r_net, M_r_refuses, M_r_netAll, M_r_partsOf, M_r_errorParts, M_r_back,
  M_r_odds, M_r_more, M_r_error, M_r_errors, M_r_plain, M_r_worst, M_r_share, M_r_grains,
  M_r_better, M_r_aloneOf, M_r_offAlone, M_r_alone, M_r_alones, M_r_closer, M_r_isSuspect, M_r_supposes,
  M_r_supposesFine, M_r_supposesOpen, M_r_supposesShut, M_r_areLights, M_r_areSeen, M_r_supposedRead, M_r_refusesSuspects, M_r_suspectNumber,
  M_r_suspects, M_r_suspect, M_r_supposed, M_r_puts, M_r_clears, M_r_laysRows, M_r_laysRow, M_r_rowOf,
  M_r_mask, M_r_rank, M_r_told, M_r_solved, M_r_factor, M_r_squaresOf, M_r_shareBy, M_r_fewer,
  M_r_agree, M_r_movesTo, M_r_goes, M_r_laysTours, M_r_tour, M_r_tourAt, M_r_sign, M_r_signAt,
  M_r_remembers, M_r_changed, M_r_shine, M_r_stick, M_r_lose, M_r_undo, M_r_stuck, M_r_size,
  M_r_trouble, M_ji_bitCount, M_js_length, M_js_charAt, M_js_coder, M_js_isLatin1, M_js_checkIndex, M_jl_charAt,
  M_jp_checkIndex, M_l_law]
