/-! ===== the methods ===== -/
def mC_init : Nat := 0
def mC_feed : Nat := 1
def mC_end : Nat := 2
def mC_picture : Nat := 3
def mC_fault : Nat := 4
def mC_put : Nat := 5
def mC_take : Nat := 6
def mC_move : Nat := 7
def mC_draw : Nat := 8
def mC_seed : Nat := 9
def mC_paint : Nat := 10
def mC_rounds : Nat := 11
def mC_adapt : Nat := 12
def mC_turn : Nat := 13
def mC_undo : Nat := 14
def mC_redo : Nat := 15
def mC_dot : Nat := 16
def mC_cell : Nat := 17
def mC_near : Nat := 18
def mC_far : Nat := 19
def mC_around : Nat := 20
def mC_ring : Nat := 21
def mC_closest : Nat := 22
def mC_loads : Nat := 23
def mC_ties : Nat := 24
def mC_due : Nat := 25
def mC_best : Nat := 26
def mC_edge : Nat := 27
def mC_touch : Nat := 28
def mC_way : Nat := 29
def mC_shade : Nat := 30
def mC_step : Nat := 31
def mC_moves : Nat := 32
def mC_till : Nat := 33
def mC_steps : Nat := 34
def mC_loss : Nat := 35
def mC_idle : Nat := 36
def mC_more : Nat := 37
def mC_tone : Nat := 38
def mC_uneven : Nat := 39
def mC_against : Nat := 40
def mC_image : Nat := 41
def mC_back : Nat := 42
def mC_about : Nat := 43
def mC_upToDate : Nat := 44
def mC_forgetWhatWasSeen : Nat := 45
def mC_beginAct : Nat := 46
def mC_startAnew : Nat := 47
def mC_isBox : Nat := 48
def mC_countLeft : Nat := 49
def mC_planAdded : Nat := 50
def mC_firstGreatest : Nat := 51
def mC_leastOf : Nat := 52
def mC_emptyDots : Nat := 53
def mC_cellsOfShade : Nat := 54
def mC_spotsOfShade : Nat := 55
def mC_ownersOfShade : Nat := 56
def mC_costOfShade : Nat := 57
def mC_divide : Nat := 58
def mC_price : Nat := 59
def mS_init : Nat := 60
def mS_clear : Nat := 61
def mS_copy : Nat := 62
def mS_becomeQuarterTurnOf : Nat := 63
def mS_size : Nat := 64
def mS_isAsLargeAs : Nat := 65
def mS_holds : Nat := 66
def mS_has : Nat := 67
def mS_numberOf : Nat := 68
def mS_columnOf : Nat := 69
def mS_rowOf : Nat := 70
def mS_weightAt : Nat := 71
def mS_add : Nat := 72
def mS_remove : Nat := 73
def mS_place : Nat := 74
def mS_commonDivisor : Nat := 75
def mS_liesJustAt : Nat := 76
def mS_liesAsIn : Nat := 77
def mS_gap : Nat := 78
def mS_span : Nat := 79
def mS_apart : Nat := 80
def mS_dotsAheadOf : Nat := 81
def mS_spotColumn : Nat := 82
def mS_spotRow : Nat := 83
def mS_nearestWhole : Nat := 84
def mS_spotOf : Nat := 85
def mS_spotsWithin : Nat := 86
def mS_greyWithin : Nat := 87
def mS_sumByShade : Nat := 88
def mS_markBusy : Nat := 89
def mS_freeGreyCells : Nat := 90
def mS_drawOne : Nat := 91
def mS_drawBelow : Nat := 92
def mF_init : Nat := 93
def mF_survey : Nat := 94
def mF_round : Nat := 95
def mF_wipeOwners : Nat := 96
def mF_offer : Nat := 97
def mF_addUp : Nat := 98
def mF_addCell : Nat := 99
def mF_worstOf : Nat := 100
def mF_farthestOf : Nat := 101
def mF_cellsAtEdge : Nat := 102
def mF_ownsShade : Nat := 103
def mK_init : Nat := 104
def mK_countCouples : Nat := 105
def mK_join : Nat := 106
def mK_couplesOfTwo : Nat := 107
def mK_couplesOf : Nat := 108
def mK_fewestSteps : Nat := 109
def mK_piecesOf : Nat := 110
def mK_clearPiece : Nat := 111
def mK_push : Nat := 112
def mP_init : Nat := 113
def mP_clear : Nat := 114
def mP_keep : Nat := 115
def mP_swapBack : Nat := 116
def mP_swapForth : Nat := 117
def mP_slotOf : Nat := 118
def mP_swap : Nat := 119
def mQ_init : Nat := 120
def mQ_leaveOut : Nat := 121
def mQ_priceOfOthers : Nat := 122
def mQ_sum : Nat := 123
def mQ_findCheapest : Nat := 124
def mQ_sumWithOneAt : Nat := 125
def mR_init : Nat := 126
def mR_hasRoom : Nat := 127
def mR_append : Nat := 128
def mR_handOver : Nat := 129
def mR_read : Nat := 130
def mR_readSize : Nat := 131
def mR_readLine : Nat := 132
def mR_readRow : Nat := 133
def mR_readDot : Nat := 134
def mR_readNumber : Nat := 135
def mR_valueOfDigits : Nat := 136
def mR_readSign : Nat := 137
def mR_expect : Nat := 138
def mR_fail : Nat := 139
def mR_isWord : Nat := 140
def mR_next : Nat := 141
def mR_kindOf : Nat := 142
def mT_init : Nat := 143
def mT_clear : Nat := 144
def mT_add : Nat := 145
def mT_movedAt : Nat := 146
def mT_costAt : Nat := 147
def mA_init : Nat := 148
def mA_forget : Nat := 149
def mA_lookOne : Nat := 150
def mA_lookToEnd : Nat := 151
def mB_init : Nat := 152
def mB_keep : Nat := 153
def mB_otherOwners : Nat := 154
def mB_otherWeights : Nat := 155
def mB_otherDots : Nat := 156
def mM_init : Nat := 157
def mM_isIn : Nat := 158
def mM_truth : Nat := 159
def mM_greater : Nat := 160
def mM_size : Nat := 161
def mM_feed : Nat := 162
def mM_four : Nat := 163
def mM_end : Nat := 164
def mM_here : Nat := 165
def mM_isLetter : Nat := 166
def mM_isDigit : Nat := 167
def mM_goOn : Nat := 168
def mM_wrong : Nat := 169
def mM_isGood : Nat := 170
def mM_isWord : Nat := 171
def mM_number : Nat := 172
def mM_ends : Nat := 173
def mM_rowLine : Nat := 174
def mM_dotLine : Nat := 175
def mM_picture : Nat := 176
def mM_fault : Nat := 177
def mM_act : Nat := 178
def mM_otherAct : Nat := 179
def mM_exchanges : Nat := 180
def mM_undo : Nat := 181
def mM_redo : Nat := 182
def mM_wide : Nat := 183
def mM_high : Nat := 184
def mM_cells : Nat := 185
def mM_dots : Nat := 186
def mM_isCell : Nat := 187
def mM_isDot : Nat := 188
def mM_weight : Nat := 189
def mM_numberOf : Nat := 190
def mM_divisor : Nat := 191
def mM_lays : Nat := 192
def mM_xOf : Nat := 193
def mM_yOf : Nat := 194
def mM_under : Nat := 195
def mM_upper : Nat := 196
def mM_lower : Nat := 197
def mM_isNearer : Nat := 198
def mM_laysOwners : Nat := 199
def mM_ownerBut : Nat := 200
def mM_costBy : Nat := 201
def mM_costBut : Nat := 202
def mM_allCost : Nat := 203
def mM_laysLoads : Nat := 204
def mM_liesAt : Nat := 205
def mM_allWeights : Nat := 206
def mM_comes : Nat := 207
def mM_put : Nat := 208
def mM_goes : Nat := 209
def mM_take : Nat := 210
def mM_move : Nat := 211
def mM_isBare : Nat := 212
def mM_drawOf : Nat := 213
def mM_drawsOne : Nat := 214
def mM_draw : Nat := 215
def mM_seed : Nat := 216
def mM_paint : Nat := 217
def mM_turn : Nat := 218
def mM_dearest : Nat := 219
def mM_nearestOn : Nat := 220
def mM_toMiddle : Nat := 221
def mM_isElsewhere : Nat := 222
def mM_round : Nat := 223
def mM_notes : Nat := 224
def mM_rounds : Nat := 225
def mM_steps : Nat := 226
def mM_puts : Nat := 227
def mM_takesBack : Nat := 228
def mM_moves : Nat := 229
def mM_till : Nat := 230
def mM_apart : Nat := 231
def mM_step : Nat := 232
def mM_adapt : Nat := 233
def mM_spotOf : Nat := 234
def mM_areBeside : Nat := 235
def mM_meets : Nat := 236
def mM_piecesOf : Nat := 237
def mM_costOf : Nat := 238
def mM_dot : Nat := 239
def mM_spotsAt : Nat := 240
def mM_cell : Nat := 241
def mM_near : Nat := 242
def mM_far : Nat := 243
def mM_around : Nat := 244
def mM_ring : Nat := 245
def mM_closest : Nat := 246
def mM_loads : Nat := 247
def mM_touches : Nat := 248
def mM_touch : Nat := 249
def mM_way : Nat := 250
def mM_ownersOf : Nat := 251
def mM_shade : Nat := 252
def mM_isWithin : Nat := 253
def mM_weightsIn : Nat := 254
def mM_laysSpots : Nat := 255
def mM_dotsIn : Nat := 256
def mM_tone : Nat := 257
def mM_uneven : Nat := 258
def mM_lossOf : Nat := 259
def mM_loss : Nat := 260
def mM_idle : Nat := 261
def mM_costWith : Nat := 262
def mM_more : Nat := 263
def mM_costMoved : Nat := 264
def mM_best : Nat := 265
def mM_ties : Nat := 266
def mM_farthestOf : Nat := 267
def mM_outside : Nat := 268
def mM_edge : Nat := 269
def mM_due : Nat := 270
def mM_isBox : Nat := 271
def mM_image : Nat := 272
def mM_back : Nat := 273
def mM_otherOwners : Nat := 274
def mM_against : Nat := 275
def mM_emptyOnes : Nat := 276
def mM_about : Nat := 277
def mL_law : Nat := 278
def mJm_floorMod : Nat := 279
def mJm_abs : Nat := 280
def mJm_max : Nat := 281
def mJm_min : Nat := 282
def mJs_length : Nat := 283
def mJs_charAt : Nat := 284
def mJs_coder : Nat := 285
def mJs_isLatin1 : Nat := 286
def mJs_checkIndex : Nat := 287
def mJ1_charAt : Nat := 288
def mJa_fillL : Nat := 289
def mJa_fillI : Nat := 290
def mJp_checkIndex : Nat := 291
def mtl_0 : List MD := [
  (yX9_init, cX9_init, 2, none, { frames := 3, cells := 134, slots := 18248, locals := 61 }),
  (yX9_feed, cX9_feed, 6, some .int, { frames := 1, cells := 0, slots := 0, locals := 22 }),
  (yX9_end, cX9_end, 2, some .int, { frames := 0, cells := 0, slots := 0, locals := 0 }),
  (yX9_picture, cX9_picture, 2, some .int, { frames := 7, cells := 0, slots := 0, locals := 148 }),
  (yX9_fault, cX9_fault, 2, some .int, { frames := 0, cells := 0, slots := 0, locals := 0 }),
  (yX9_put, cX9_put, 3, some .int, { frames := 4, cells := 0, slots := 0, locals := 90 }),
  (yX9_take, cX9_take, 2, some .int, { frames := 4, cells := 0, slots := 0, locals := 90 }),
  (yX9_move, cX9_move, 4, some .boolean, { frames := 4, cells := 0, slots := 0, locals := 90 }),
  (yX9_draw, cX9_draw, 3, some .int, { frames := 4, cells := 0, slots := 0, locals := 101 }),
  (yX9_seed, cX9_seed, 3, some .int, { frames := 0, cells := 0, slots := 0, locals := 0 }),
  (yX9_paint, cX9_paint, 5, some .int, { frames := 4, cells := 0, slots := 0, locals := 90 }),
  (yX9_rounds, cX9_rounds, 7, some .int, { frames := 5, cells := 0, slots := 0, locals := 116 }),
  (yX9_adapt, cX9_adapt, 7, some .int, { frames := 5, cells := 0, slots := 0, locals := 116 }),
  (yX9_turn, cX9_turn, 2, some .int, { frames := 4, cells := 0, slots := 0, locals := 90 }),
  (yX9_undo, cX9_undo, 1, some .boolean, { frames := 2, cells := 0, slots := 0, locals := 44 }),
  (yX9_redo, cX9_redo, 1, some .boolean, { frames := 2, cells := 0, slots := 0, locals := 45 }),
  (yX9_dot, cX9_dot, 3, some .int, { frames := 5, cells := 0, slots := 0, locals := 116 }),
  (yX9_cell, cX9_cell, 5, some .int, { frames := 5, cells := 0, slots := 0, locals := 116 }),
  (yX9_near, cX9_near, 5, some .int, { frames := 2, cells := 0, slots := 0, locals := 60 }),
  (yX9_far, cX9_far, 9, some .int, { frames := 1, cells := 0, slots := 0, locals := 27 }),
  (yX9_around, cX9_around, 6, some .int, { frames := 1, cells := 0, slots := 0, locals := 27 }),
  (yX9_ring, cX9_ring, 6, some .int, { frames := 5, cells := 0, slots := 0, locals := 116 }),
  (yX9_closest, cX9_closest, 10, some .int, { frames := 2, cells := 0, slots := 0, locals := 56 }),
  (yX9_loads, cX9_loads, 3, some .int, { frames := 5, cells := 0, slots := 0, locals := 116 }),
  (yX9_ties, cX9_ties, 7, some .int, { frames := 5, cells := 0, slots := 0, locals := 116 }),
  (yX9_due, cX9_due, 8, some .int, { frames := 2, cells := 0, slots := 0, locals := 45 }),
  (yX9_best, cX9_best, 3, some .int, { frames := 5, cells := 0, slots := 0, locals := 116 }),
  (yX9_edge, cX9_edge, 3, some .int, { frames := 5, cells := 0, slots := 0, locals := 116 }),
  (yX9_touch, cX9_touch, 3, some .int, { frames := 5, cells := 0, slots := 0, locals := 116 }),
  (yX9_way, cX9_way, 3, some .int, { frames := 5, cells := 0, slots := 0, locals := 116 }),
  (yX9_shade, cX9_shade, 3, some .int, { frames := 6, cells := 0, slots := 0, locals := 139 }),
  (yX9_step, cX9_step, 2, some .int, { frames := 5, cells := 0, slots := 0, locals := 119 }),
  (yX9_moves, cX9_moves, 1, some .int, { frames := 5, cells := 0, slots := 0, locals := 119 }),
  (yX9_till, cX9_till, 2, some .int, { frames := 6, cells := 0, slots := 0, locals := 142 }),
  (yX9_steps, cX9_steps, 3, some .int, { frames := 2, cells := 0, slots := 0, locals := 43 }),
  (yX9_loss, cX9_loss, 2, some .int, { frames := 5, cells := 0, slots := 0, locals := 116 }),
  (yX9_idle, cX9_idle, 5, some .int, { frames := 5, cells := 0, slots := 0, locals := 116 }),
  (yX9_more, cX9_more, 2, some .int, { frames := 5, cells := 0, slots := 0, locals := 116 }),
  (yX9_tone, cX9_tone, 6, some .int, { frames := 3, cells := 0, slots := 0, locals := 70 }),
  (yX9_uneven, cX9_uneven, 10, some .int, { frames := 3, cells := 0, slots := 0, locals := 70 })]
def mtI_0 : List (Nat × Nat × Nat × Nat × Nat × Nat) := [(2, 0, 7023, 7001, 7022, 0), (0, 5, 8127, 7001, 8125, 8126), (0, 1, 8139, 7001, 8137, 8138), (0, 0, 8143, 7001, 8141, 8142), (0, 1, 9052, 7001, 9050, 9051), (0, 2, 9056, 7001, 9054, 9055), (0, 1, 9084, 7001, 9082, 9083), (0, 3, 9096, 7001, 9094, 9095), (0, 1, 9105, 7001, 9103, 9104), (0, 1, 9145, 7001, 9143, 9144), (0, 3, 9149, 7001, 9147, 9148), (0, 1, 9157, 7001, 9155, 9156), (0, 2, 9212, 7001, 9210, 9211), (0, 0, 9227, 7001, 9225, 9226), (0, 0, 9235, 7001, 9233, 9234), (0, 0, 10007, 7001, 10005, 10006), (0, 2, 10015, 7001, 10013, 10014), (0, 3, 10049, 7001, 10047, 10048), (0, 3, 10058, 7001, 10056, 10057), (0, 4, 10074, 7001, 10072, 10073), (0, 3, 10083, 7001, 10081, 10082), (0, 2, 10087, 7001, 10085, 10086), (0, 1, 10097, 7001, 10095, 10096), (0, 1, 10108, 7001, 10106, 10107), (0, 2, 10122, 7001, 10120, 10121), (0, 1, 10126, 7001, 10124, 10125), (0, 2, 10134, 7001, 10132, 10133), (0, 2, 10160, 7001, 10158, 10159), (0, 2, 10191, 7001, 10189, 10190), (0, 2, 10196, 7001, 10194, 10195), (0, 2, 10204, 7001, 10202, 10203), (0, 1, 10229, 7001, 10227, 10228), (0, 0, 11000, 7001, 10238, 10239), (0, 1, 11004, 7001, 11002, 11003), (0, 2, 11013, 7001, 11011, 11012), (0, 1, 11028, 7001, 11026, 11027), (0, 0, 11037, 7001, 11035, 11036), (0, 1, 11041, 7001, 11039, 11040), (0, 5, 11045, 7001, 11043, 11044), (0, 2, 11053, 7001, 11051, 11052)]
def mtl_1 : List MD := [
  (yX9_against, cX9_against, 3, some .int, { frames := 5, cells := 0, slots := 0, locals := 116 }),
  (yX9_image, cX9_image, 2, some .int, { frames := 5, cells := 0, slots := 0, locals := 116 }),
  (yX9_back, cX9_back, 2, some .int, { frames := 3, cells := 0, slots := 0, locals := 60 }),
  (yX9_about, cX9_about, 2, some .int, { frames := 6, cells := 0, slots := 0, locals := 138 }),
  (yX9_upToDate, cX9_upToDate, 1, some (.object "SettledDots$Field"), { frames := 4, cells := 0, slots := 0, locals := 96 }),
  (yX9_forgetWhatWasSeen, cX9_forgetWhatWasSeen, 1, none, { frames := 1, cells := 0, slots := 0, locals := 20 }),
  (yX9_beginAct, cX9_beginAct, 2, some (.object "SettledDots$Scene"), { frames := 3, cells := 0, slots := 0, locals := 69 }),
  (yX9_startAnew, cX9_startAnew, 1, none, { frames := 2, cells := 0, slots := 0, locals := 40 }),
  (yX9_isBox, cX9_isBox, 1, some .boolean, { frames := 0, cells := 0, slots := 0, locals := 0 }),
  (yX9_countLeft, cX9_countLeft, 5, some .int, { frames := 0, cells := 0, slots := 0, locals := 0 }),
  (yX9_planAdded, cX9_planAdded, 7, some .int, { frames := 2, cells := 0, slots := 0, locals := 50 }),
  (yX9_firstGreatest, cX9_firstGreatest, 4, some .int, { frames := 0, cells := 0, slots := 0, locals := 0 }),
  (yX9_leastOf, cX9_leastOf, 4, some .int, { frames := 1, cells := 0, slots := 0, locals := 21 }),
  (yX9_emptyDots, cX9_emptyDots, 3, some .int, { frames := 5, cells := 0, slots := 0, locals := 116 }),
  (yX9_cellsOfShade, cX9_cellsOfShade, 4, some .int, { frames := 1, cells := 0, slots := 0, locals := 20 }),
  (yX9_spotsOfShade, cX9_spotsOfShade, 4, some .int, { frames := 3, cells := 0, slots := 0, locals := 63 }),
  (yX9_ownersOfShade, cX9_ownersOfShade, 4, some .int, { frames := 5, cells := 0, slots := 0, locals := 116 }),
  (yX9_costOfShade, cX9_costOfShade, 4, some .int, { frames := 5, cells := 0, slots := 0, locals := 116 }),
  (yX9_divide, cX9_divide, 4, some .long, { frames := 0, cells := 0, slots := 0, locals := 0 }),
  (yX9_price, cX9_price, 5, some .int, { frames := 0, cells := 0, slots := 0, locals := 0 }),
  (yX7_init, cX7_init, 1, none, { frames := 1, cells := 4, slots := 520, locals := 20 }),
  (yX7_clear, cX7_clear, 1, none, { frames := 1, cells := 0, slots := 0, locals := 23 }),
  (yX7_copy, cX7_copy, 2, none, { frames := 1, cells := 0, slots := 0, locals := 26 }),
  (yX7_becomeQuarterTurnOf, cX7_becomeQuarterTurnOf, 4, none, { frames := 0, cells := 0, slots := 0, locals := 0 }),
  (yX7_size, cX7_size, 1, some .int, { frames := 0, cells := 0, slots := 0, locals := 0 }),
  (yX7_isAsLargeAs, cX7_isAsLargeAs, 2, some .boolean, { frames := 0, cells := 0, slots := 0, locals := 0 }),
  (yX7_holds, cX7_holds, 3, some .boolean, { frames := 0, cells := 0, slots := 0, locals := 0 }),
  (yX7_has, cX7_has, 2, some .boolean, { frames := 0, cells := 0, slots := 0, locals := 0 }),
  (yX7_numberOf, cX7_numberOf, 3, some .int, { frames := 0, cells := 0, slots := 0, locals := 0 }),
  (yX7_columnOf, cX7_columnOf, 2, some .int, { frames := 0, cells := 0, slots := 0, locals := 0 }),
  (yX7_rowOf, cX7_rowOf, 2, some .int, { frames := 0, cells := 0, slots := 0, locals := 0 }),
  (yX7_weightAt, cX7_weightAt, 3, some .int, { frames := 0, cells := 0, slots := 0, locals := 0 }),
  (yX7_add, cX7_add, 3, none, { frames := 2, cells := 0, slots := 0, locals := 54 }),
  (yX7_remove, cX7_remove, 3, none, { frames := 0, cells := 0, slots := 0, locals := 0 }),
  (yX7_place, cX7_place, 10, some .boolean, { frames := 1, cells := 0, slots := 0, locals := 25 }),
  (yX7_commonDivisor, cX7_commonDivisor, 6, some .int, { frames := 0, cells := 0, slots := 0, locals := 0 }),
  (yX7_liesJustAt, cX7_liesJustAt, 4, some .boolean, { frames := 0, cells := 0, slots := 0, locals := 0 }),
  (yX7_liesAsIn, cX7_liesAsIn, 3, some .boolean, { frames := 0, cells := 0, slots := 0, locals := 0 }),
  (yX7_gap, cX7_gap, 8, some .long, { frames := 0, cells := 0, slots := 0, locals := 0 }),
  (yX7_span, cX7_span, 2, some .long, { frames := 0, cells := 0, slots := 0, locals := 0 })]
def mtI_1 : List (Nat × Nat × Nat × Nat × Nat × Nat) := [(0, 2, 11058, 7001, 11056, 11057), (0, 1, 11086, 7001, 11084, 11085), (0, 1, 11096, 7001, 11094, 11095), (0, 1, 11101, 7001, 11099, 11100), (0, 0, 9161, 7001, 9160, 1000), (0, 0, 9043, 7001, 9042, 12), (0, 0, 9064, 7001, 9063, 13), (0, 0, 9031, 7001, 9030, 11), (1, 1, 11061, 7001, 11060, 0), (0, 2, 9216, 7001, 9215, 1005), (0, 3, 9220, 7001, 9219, 1006), (0, 1, 10112, 7001, 10111, 1012), (0, 1, 10116, 7001, 10115, 1013), (0, 0, 11105, 7001, 11104, 2004), (0, 1, 10208, 7001, 10207, 2000), (0, 1, 10213, 7001, 10212, 2001), (0, 1, 10217, 7001, 10216, 2002), (0, 1, 10225, 7001, 10224, 2003), (1, 2, 10079, 7001, 10078, 0), (1, 3, 9188, 7001, 9187, 0), (2, 0, 7031, 7002, 7030, 0), (0, 0, 8151, 7002, 8149, 8150), (0, 1, 9076, 7002, 9074, 9075), (0, 1, 9231, 7002, 9229, 9230), (0, 0, 9113, 7002, 9111, 9112), (0, 1, 11065, 7002, 11063, 11064), (0, 2, 9060, 7002, 9058, 9059), (0, 1, 9088, 7002, 9086, 9087), (0, 2, 9117, 7002, 9115, 9116), (0, 1, 9136, 7002, 9134, 9135), (0, 1, 9140, 7002, 9138, 9139), (0, 2, 9153, 7002, 9151, 9152), (0, 2, 9016, 7002, 9014, 9015), (0, 1, 9092, 7002, 9090, 9091), (0, 4, 9020, 7002, 9018, 9019), (1, 2, 9023, 7002, 9022, 0), (0, 3, 9100, 7002, 9098, 9099), (0, 2, 11082, 7002, 11080, 11081), (0, 3, 10066, 7002, 10064, 10065), (0, 1, 10070, 7002, 10068, 10069)]
def mtl_2 : List MD := [
  (yX7_apart, cX7_apart, 14, some .long, { frames := 1, cells := 0, slots := 0, locals := 23 }),
  (yX7_dotsAheadOf, cX7_dotsAheadOf, 14, some .int, { frames := 1, cells := 0, slots := 0, locals := 27 }),
  (yX7_spotColumn, cX7_spotColumn, 2, some .int, { frames := 1, cells := 0, slots := 0, locals := 21 }),
  (yX7_spotRow, cX7_spotRow, 2, some .int, { frames := 1, cells := 0, slots := 0, locals := 21 }),
  (yX7_nearestWhole, cX7_nearestWhole, 2, some .int, { frames := 0, cells := 0, slots := 0, locals := 0 }),
  (yX7_spotOf, cX7_spotOf, 2, some .int, { frames := 2, cells := 0, slots := 0, locals := 42 }),
  (yX7_spotsWithin, cX7_spotsWithin, 9, some .int, { frames := 2, cells := 0, slots := 0, locals := 42 }),
  (yX7_greyWithin, cX7_greyWithin, 8, some .int, { frames := 0, cells := 0, slots := 0, locals := 0 }),
  (yX7_sumByShade, cX7_sumByShade, 3, none, { frames := 1, cells := 0, slots := 0, locals := 23 }),
  (yX7_markBusy, cX7_markBusy, 3, none, { frames := 1, cells := 0, slots := 0, locals := 22 }),
  (yX7_freeGreyCells, cX7_freeGreyCells, 4, some .int, { frames := 1, cells := 0, slots := 0, locals := 20 }),
  (yX7_drawOne, cX7_drawOne, 6, none, { frames := 3, cells := 0, slots := 0, locals := 76 }),
  (yX7_drawBelow, cX7_drawBelow, 2, some .int, { frames := 0, cells := 0, slots := 0, locals := 0 }),
  (yX2_init, cX2_init, 1, none, { frames := 1, cells := 9, slots := 1800, locals := 20 }),
  (yX2_survey, cX2_survey, 3, none, { frames := 3, cells := 0, slots := 0, locals := 74 }),
  (yX2_round, cX2_round, 5, some .int, { frames := 3, cells := 0, slots := 0, locals := 74 }),
  (yX2_wipeOwners, cX2_wipeOwners, 1, none, { frames := 1, cells := 0, slots := 0, locals := 24 }),
  (yX2_offer, cX2_offer, 22, none, { frames := 0, cells := 0, slots := 0, locals := 0 }),
  (yX2_addUp, cX2_addUp, 5, none, { frames := 2, cells := 0, slots := 0, locals := 50 }),
  (yX2_addCell, cX2_addCell, 7, none, { frames := 1, cells := 0, slots := 0, locals := 24 }),
  (yX2_worstOf, cX2_worstOf, 11, some .int, { frames := 1, cells := 0, slots := 0, locals := 20 }),
  (yX2_farthestOf, cX2_farthestOf, 5, some .int, { frames := 1, cells := 0, slots := 0, locals := 20 }),
  (yX2_cellsAtEdge, cX2_cellsAtEdge, 7, some .int, { frames := 1, cells := 0, slots := 0, locals := 22 }),
  (yX2_ownsShade, cX2_ownsShade, 5, some .boolean, { frames := 1, cells := 0, slots := 0, locals := 20 }),
  (yX3_init, cX3_init, 1, none, { frames := 1, cells := 5, slots := 2480, locals := 20 }),
  (yX3_countCouples, cX3_countCouples, 6, none, { frames := 1, cells := 0, slots := 0, locals := 23 }),
  (yX3_join, cX3_join, 3, none, { frames := 0, cells := 0, slots := 0, locals := 0 }),
  (yX3_couplesOfTwo, cX3_couplesOfTwo, 3, some .int, { frames := 0, cells := 0, slots := 0, locals := 0 }),
  (yX3_couplesOf, cX3_couplesOf, 5, some .int, { frames := 1, cells := 0, slots := 0, locals := 22 }),
  (yX3_fewestSteps, cX3_fewestSteps, 8, some .int, { frames := 1, cells := 0, slots := 0, locals := 23 }),
  (yX3_piecesOf, cX3_piecesOf, 6, some .int, { frames := 2, cells := 0, slots := 0, locals := 47 }),
  (yX3_clearPiece, cX3_clearPiece, 7, none, { frames := 1, cells := 0, slots := 0, locals := 21 }),
  (yX3_push, cX3_push, 2, none, { frames := 0, cells := 0, slots := 0, locals := 0 }),
  (yX4_init, cX4_init, 2, none, { frames := 2, cells := 61, slots := 6348, locals := 40 }),
  (yX4_clear, cX4_clear, 1, none, { frames := 0, cells := 0, slots := 0, locals := 0 }),
  (yX4_keep, cX4_keep, 3, some (.object "SettledDots$Scene"), { frames := 2, cells := 0, slots := 0, locals := 47 }),
  (yX4_swapBack, cX4_swapBack, 2, some (.object "SettledDots$Scene"), { frames := 1, cells := 0, slots := 0, locals := 23 }),
  (yX4_swapForth, cX4_swapForth, 3, some (.object "SettledDots$Scene"), { frames := 1, cells := 0, slots := 0, locals := 23 }),
  (yX4_slotOf, cX4_slotOf, 2, some .int, { frames := 0, cells := 0, slots := 0, locals := 0 }),
  (yX4_swap, cX4_swap, 4, some (.object "SettledDots$Scene"), { frames := 0, cells := 0, slots := 0, locals := 0 })]
def mtI_2 : List (Nat × Nat × Nat × Nat × Nat × Nat) := [(0, 3, 10102, 7002, 10100, 10101), (0, 3, 10062, 7002, 10060, 10061), (0, 1, 10023, 7002, 10022, 1008), (0, 1, 10030, 7002, 10029, 1009), (1, 2, 10026, 7002, 10025, 0), (0, 1, 10019, 7002, 10017, 10018), (0, 4, 10054, 7002, 10052, 10053), (0, 4, 11049, 7002, 11047, 11048), (0, 1, 10130, 7002, 10128, 10129), (0, 1, 9109, 7002, 9107, 9108), (0, 1, 9121, 7002, 9119, 9120), (0, 1, 9125, 7002, 9123, 9124), (0, 1, 9129, 7002, 9128, 15), (2, 0, 7090, 7003, 7089, 0), (0, 1, 9165, 7003, 9163, 9164), (0, 1, 9193, 7003, 9191, 9192), (0, 0, 9169, 7003, 9168, 1001), (0, 2, 9177, 7003, 9176, 1002), (0, 1, 9181, 7003, 9180, 1003), (0, 4, 9185, 7003, 9184, 1004), (0, 2, 9198, 7003, 9196, 9197), (0, 2, 10164, 7003, 10162, 10163), (0, 2, 10186, 7003, 10184, 10185), (0, 3, 10221, 7003, 10219, 10220), (2, 0, 8041, 7009, 8040, 0), (0, 2, 10168, 7009, 10166, 10167), (0, 2, 10174, 7009, 10173, 1015), (0, 2, 10182, 7009, 10180, 10181), (0, 2, 10178, 7009, 10176, 10177), (0, 3, 10200, 7009, 10198, 10199), (0, 3, 10034, 7009, 10032, 10033), (0, 2, 10039, 7009, 10038, 1010), (0, 1, 10043, 7009, 10042, 1011), (2, 0, 7180, 7005, 7179, 0), (0, 0, 9035, 7005, 9033, 9034), (0, 1, 9068, 7005, 9066, 9067), (0, 1, 9239, 7005, 9237, 9238), (0, 1, 10011, 7005, 10009, 10010), (0, 1, 9072, 7005, 9071, 14), (0, 2, 10003, 7005, 10002, 1007)]
def mtl_3 : List MD := [
  (yX5_init, cX5_init, 1, none, { frames := 1, cells := 1, slots := 400, locals := 20 }),
  (yX5_leaveOut, cX5_leaveOut, 7, none, { frames := 2, cells := 0, slots := 0, locals := 54 }),
  (yX5_priceOfOthers, cX5_priceOfOthers, 8, some .int, { frames := 1, cells := 0, slots := 0, locals := 27 }),
  (yX5_sum, cX5_sum, 4, some .int, { frames := 1, cells := 0, slots := 0, locals := 20 }),
  (yX5_findCheapest, cX5_findCheapest, 5, none, { frames := 2, cells := 0, slots := 0, locals := 50 }),
  (yX5_sumWithOneAt, cX5_sumWithOneAt, 10, some .int, { frames := 1, cells := 0, slots := 0, locals := 21 }),
  (yX6_init, cX6_init, 1, none, { frames := 2, cells := 6, slots := 1428, locals := 40 }),
  (yX6_hasRoom, cX6_hasRoom, 1, some .boolean, { frames := 0, cells := 0, slots := 0, locals := 0 }),
  (yX6_append, cX6_append, 3, none, { frames := 0, cells := 0, slots := 0, locals := 0 }),
  (yX6_handOver, cX6_handOver, 3, some (.object "SettledDots$Scene"), { frames := 0, cells := 0, slots := 0, locals := 0 }),
  (yX6_read, cX6_read, 2, some .boolean, { frames := 6, cells := 0, slots := 0, locals := 127 }),
  (yX6_readSize, cX6_readSize, 1, none, { frames := 3, cells := 0, slots := 0, locals := 65 }),
  (yX6_readLine, cX6_readLine, 1, none, { frames := 5, cells := 0, slots := 0, locals := 107 }),
  (yX6_readRow, cX6_readRow, 2, none, { frames := 3, cells := 0, slots := 0, locals := 62 }),
  (yX6_readDot, cX6_readDot, 3, none, { frames := 3, cells := 0, slots := 0, locals := 76 }),
  (yX6_readNumber, cX6_readNumber, 4, some .int, { frames := 2, cells := 0, slots := 0, locals := 42 }),
  (yX6_valueOfDigits, cX6_valueOfDigits, 3, some .int, { frames := 0, cells := 0, slots := 0, locals := 0 }),
  (yX6_readSign, cX6_readSign, 1, none, { frames := 2, cells := 0, slots := 0, locals := 42 }),
  (yX6_expect, cX6_expect, 2, some .boolean, { frames := 1, cells := 0, slots := 0, locals := 21 }),
  (yX6_fail, cX6_fail, 2, none, { frames := 0, cells := 0, slots := 0, locals := 0 }),
  (yX6_isWord, cX6_isWord, 3, some .boolean, { frames := 4, cells := 0, slots := 0, locals := 85 }),
  (yX6_next, cX6_next, 2, none, { frames := 1, cells := 0, slots := 0, locals := 20 }),
  (yX6_kindOf, cX6_kindOf, 1, some .int, { frames := 0, cells := 0, slots := 0, locals := 0 }),
  (yX8_init, cX8_init, 1, none, { frames := 1, cells := 2, slots := 40, locals := 20 }),
  (yX8_clear, cX8_clear, 1, none, { frames := 0, cells := 0, slots := 0, locals := 0 }),
  (yX8_add, cX8_add, 3, none, { frames := 1, cells := 0, slots := 0, locals := 21 }),
  (yX8_movedAt, cX8_movedAt, 2, some .int, { frames := 1, cells := 0, slots := 0, locals := 22 }),
  (yX8_costAt, cX8_costAt, 2, some .int, { frames := 1, cells := 0, slots := 0, locals := 22 }),
  (yX0_init, cX0_init, 1, none, { frames := 2, cells := 20, slots := 2866, locals := 40 }),
  (yX0_forget, cX0_forget, 1, none, { frames := 0, cells := 0, slots := 0, locals := 0 }),
  (yX0_lookOne, cX0_lookOne, 2, none, { frames := 4, cells := 0, slots := 0, locals := 98 }),
  (yX0_lookToEnd, cX0_lookToEnd, 4, none, { frames := 5, cells := 0, slots := 0, locals := 119 }),
  (yX1_init, cX1_init, 1, none, { frames := 2, cells := 6, slots := 928, locals := 40 }),
  (yX1_keep, cX1_keep, 3, none, { frames := 2, cells := 0, slots := 0, locals := 47 }),
  (yX1_otherOwners, cX1_otherOwners, 5, some .int, { frames := 1, cells := 0, slots := 0, locals := 20 }),
  (yX1_otherWeights, cX1_otherWeights, 4, some .int, { frames := 1, cells := 0, slots := 0, locals := 20 }),
  (yX1_otherDots, cX1_otherDots, 4, some .int, { frames := 1, cells := 0, slots := 0, locals := 22 }),
  (yX10_init, cX10_init, 1, none, { frames := 1, cells := 23, slots := 11840, locals := 20 }),
  (yX10_isIn, cX10_isIn, 6, some .boolean, { frames := 0, cells := 0, slots := 0, locals := 0 }),
  (yX10_truth, cX10_truth, 1, some .int, { frames := 0, cells := 0, slots := 0, locals := 0 })]
def mtI_3 : List (Nat × Nat × Nat × Nat × Nat × Nat) := [(2, 0, 8023, 7008, 8022, 0), (0, 3, 10138, 7008, 10136, 10137), (1, 4, 10141, 7008, 10140, 0), (0, 1, 11032, 7008, 11030, 11031), (0, 1, 10151, 7008, 10149, 10150), (0, 3, 10155, 7008, 10154, 1014), (2, 0, 7141, 7004, 7140, 0), (0, 0, 8131, 7004, 8129, 8130), (0, 1, 8135, 7004, 8133, 8134), (0, 1, 9027, 7004, 9025, 9026), (0, 0, 8147, 7004, 8145, 8146), (0, 0, 8218, 7004, 8217, 2), (0, 0, 9002, 7004, 9001, 8), (0, 0, 9007, 7004, 9006, 9), (0, 0, 9012, 7004, 9011, 10), (0, 2, 8222, 7004, 8221, 3), (0, 0, 8234, 7004, 8233, 6), (0, 0, 8238, 7004, 8237, 7), (0, 1, 8226, 7004, 8225, 4), (0, 1, 8230, 7004, 8229, 5), (0, 1, 8166, 7004, 8165, 1), (0, 0, 8158, 7004, 8157, 0), (1, 1, 8161, 7004, 8160, 0), (2, 0, 7204, 7006, 7203, 0), (0, 0, 9039, 7006, 9037, 9038), (0, 2, 9205, 7006, 9203, 9204), (0, 1, 11017, 7006, 11015, 11016), (0, 1, 11024, 7006, 11022, 11023), (2, 0, 7224, 7007, 7223, 0), (0, 0, 9047, 7007, 9045, 9046), (0, 1, 10233, 7007, 10231, 10232), (0, 1, 11008, 7007, 11006, 11007), (2, 0, 8068, 7010, 8067, 0), (0, 2, 11090, 7010, 11088, 11089), (0, 2, 11069, 7010, 11067, 11068), (0, 1, 11074, 7010, 11072, 11073), (0, 1, 11078, 7010, 11076, 11077), (2, 0, 11110, 7011, 11109, 0), (1, 3, 12007, 7011, 12006, 0), (1, 1, 12166, 7011, 12165, 0)]
def mtl_4 : List MD := [
  (yX10_greater, cX10_greater, 2, some .int, { frames := 0, cells := 0, slots := 0, locals := 0 }),
  (yX10_size, cX10_size, 1, some .int, { frames := 0, cells := 0, slots := 0, locals := 0 }),
  (yX10_feed, cX10_feed, 6, some .int, { frames := 1, cells := 0, slots := 0, locals := 22 }),
  (yX10_four, cX10_four, 3, none, { frames := 0, cells := 0, slots := 0, locals := 0 }),
  (yX10_end, cX10_end, 2, some .int, { frames := 1, cells := 0, slots := 0, locals := 25 }),
  (yX10_here, cX10_here, 2, some .int, { frames := 0, cells := 0, slots := 0, locals := 0 }),
  (yX10_isLetter, cX10_isLetter, 1, some .boolean, { frames := 0, cells := 0, slots := 0, locals := 0 }),
  (yX10_isDigit, cX10_isDigit, 1, some .boolean, { frames := 0, cells := 0, slots := 0, locals := 0 }),
  (yX10_goOn, cX10_goOn, 1, none, { frames := 1, cells := 0, slots := 0, locals := 21 }),
  (yX10_wrong, cX10_wrong, 2, none, { frames := 0, cells := 0, slots := 0, locals := 0 }),
  (yX10_isGood, cX10_isGood, 1, some .boolean, { frames := 0, cells := 0, slots := 0, locals := 0 }),
  (yX10_isWord, cX10_isWord, 3, some .boolean, { frames := 0, cells := 0, slots := 0, locals := 0 }),
  (yX10_number, cX10_number, 4, some .int, { frames := 2, cells := 0, slots := 0, locals := 41 }),
  (yX10_ends, cX10_ends, 1, none, { frames := 2, cells := 0, slots := 0, locals := 41 }),
  (yX10_rowLine, cX10_rowLine, 2, none, { frames := 2, cells := 0, slots := 0, locals := 41 }),
  (yX10_dotLine, cX10_dotLine, 4, none, { frames := 3, cells := 0, slots := 0, locals := 64 }),
  (yX10_picture, cX10_picture, 2, some .int, { frames := 4, cells := 0, slots := 0, locals := 87 }),
  (yX10_fault, cX10_fault, 2, some .int, { frames := 0, cells := 0, slots := 0, locals := 0 }),
  (yX10_act, cX10_act, 2, none, { frames := 0, cells := 0, slots := 0, locals := 0 }),
  (yX10_otherAct, cX10_otherAct, 1, none, { frames := 1, cells := 0, slots := 0, locals := 21 }),
  (yX10_exchanges, cX10_exchanges, 4, none, { frames := 0, cells := 0, slots := 0, locals := 0 }),
  (yX10_undo, cX10_undo, 1, some .boolean, { frames := 1, cells := 0, slots := 0, locals := 23 }),
  (yX10_redo, cX10_redo, 1, some .boolean, { frames := 1, cells := 0, slots := 0, locals := 23 }),
  (yX10_wide, cX10_wide, 1, some .int, { frames := 0, cells := 0, slots := 0, locals := 0 }),
  (yX10_high, cX10_high, 1, some .int, { frames := 0, cells := 0, slots := 0, locals := 0 }),
  (yX10_cells, cX10_cells, 1, some .int, { frames := 1, cells := 0, slots := 0, locals := 20 }),
  (yX10_dots, cX10_dots, 1, some .int, { frames := 0, cells := 0, slots := 0, locals := 0 }),
  (yX10_isCell, cX10_isCell, 3, some .boolean, { frames := 1, cells := 0, slots := 0, locals := 25 }),
  (yX10_isDot, cX10_isDot, 2, some .boolean, { frames := 1, cells := 0, slots := 0, locals := 25 }),
  (yX10_weight, cX10_weight, 2, some .int, { frames := 0, cells := 0, slots := 0, locals := 0 }),
  (yX10_numberOf, cX10_numberOf, 3, some .int, { frames := 1, cells := 0, slots := 0, locals := 20 }),
  (yX10_divisor, cX10_divisor, 5, some .int, { frames := 0, cells := 0, slots := 0, locals := 0 }),
  (yX10_lays, cX10_lays, 6, none, { frames := 1, cells := 0, slots := 0, locals := 24 }),
  (yX10_xOf, cX10_xOf, 2, some .int, { frames := 0, cells := 0, slots := 0, locals := 0 }),
  (yX10_yOf, cX10_yOf, 2, some .int, { frames := 0, cells := 0, slots := 0, locals := 0 }),
  (yX10_under, cX10_under, 2, some .long, { frames := 0, cells := 0, slots := 0, locals := 0 }),
  (yX10_upper, cX10_upper, 7, some .long, { frames := 1, cells := 0, slots := 0, locals := 21 }),
  (yX10_lower, cX10_lower, 2, some .long, { frames := 1, cells := 0, slots := 0, locals := 21 }),
  (yX10_isNearer, cX10_isNearer, 4, some .boolean, { frames := 2, cells := 0, slots := 0, locals := 47 }),
  (yX10_laysOwners, cX10_laysOwners, 2, none, { frames := 4, cells := 0, slots := 0, locals := 94 })]
def mtI_4 : List (Nat × Nat × Nat × Nat × Nat × Nat) := [(1, 2, 13105, 7011, 13104, 0), (1, 1, 12111, 7011, 12110, 0), (0, 5, 11236, 7011, 11234, 11235), (0, 1, 12000, 7011, 11239, 2005), (0, 1, 12004, 7011, 12002, 12003), (0, 1, 12019, 7011, 12018, 2007), (1, 1, 12022, 7011, 12021, 0), (1, 1, 12025, 7011, 12024, 0), (0, 0, 12015, 7011, 12014, 2006), (0, 1, 12038, 7011, 12037, 2010), (0, 0, 12042, 7011, 12041, 2011), (0, 1, 12030, 7011, 12029, 2008), (0, 2, 12034, 7011, 12033, 2009), (0, 0, 12046, 7011, 12045, 2012), (0, 0, 12051, 7011, 12050, 2013), (0, 0, 12056, 7011, 12055, 2014), (0, 0, 12011, 7011, 12009, 12010), (0, 1, 12060, 7011, 12058, 12059), (0, 0, 12100, 7011, 12099, 3005), (0, 0, 12096, 7011, 12095, 3004), (0, 1, 12068, 7011, 12067, 2015), (0, 0, 12064, 7011, 12062, 12063), (0, 0, 12072, 7011, 12070, 12071), (0, 0, 12084, 7011, 12083, 3001), (0, 0, 12088, 7011, 12087, 3002), (0, 0, 12155, 7011, 12154, 3014), (0, 0, 12092, 7011, 12091, 3003), (0, 2, 12080, 7011, 12079, 3000), (0, 1, 12122, 7011, 12121, 3008), (0, 1, 12159, 7011, 12158, 3015), (0, 2, 12191, 7011, 12190, 4003), (1, 2, 12114, 7011, 12113, 0), (0, 4, 12108, 7011, 12107, 3007), (0, 1, 12138, 7011, 12137, 3011), (0, 1, 12146, 7011, 12145, 3013), (0, 1, 12142, 7011, 12141, 3012), (0, 2, 12220, 7011, 12219, 4008), (0, 1, 12224, 7011, 12223, 4009), (0, 3, 12216, 7011, 12215, 4007), (0, 0, 13001, 7011, 13000, 4013)]
def mtl_5 : List MD := [
  (yX10_ownerBut, cX10_ownerBut, 5, some .int, { frames := 3, cells := 0, slots := 0, locals := 70 }),
  (yX10_costBy, cX10_costBy, 3, some .long, { frames := 2, cells := 0, slots := 0, locals := 47 }),
  (yX10_costBut, cX10_costBut, 5, some .long, { frames := 4, cells := 0, slots := 0, locals := 94 }),
  (yX10_allCost, cX10_allCost, 1, some .int, { frames := 5, cells := 0, slots := 0, locals := 118 }),
  (yX10_laysLoads, cX10_laysLoads, 2, none, { frames := 5, cells := 0, slots := 0, locals := 115 }),
  (yX10_liesAt, cX10_liesAt, 4, some .boolean, { frames := 1, cells := 0, slots := 0, locals := 21 }),
  (yX10_allWeights, cX10_allWeights, 3, some .int, { frames := 2, cells := 0, slots := 0, locals := 40 }),
  (yX10_comes, cX10_comes, 3, none, { frames := 2, cells := 0, slots := 0, locals := 49 }),
  (yX10_put, cX10_put, 3, some .int, { frames := 3, cells := 0, slots := 0, locals := 71 }),
  (yX10_goes, cX10_goes, 3, none, { frames := 1, cells := 0, slots := 0, locals := 20 }),
  (yX10_take, cX10_take, 2, some .int, { frames := 2, cells := 0, slots := 0, locals := 46 }),
  (yX10_move, cX10_move, 4, some .boolean, { frames := 2, cells := 0, slots := 0, locals := 49 }),
  (yX10_isBare, cX10_isBare, 3, some .boolean, { frames := 2, cells := 0, slots := 0, locals := 44 }),
  (yX10_drawOf, cX10_drawOf, 2, some .int, { frames := 0, cells := 0, slots := 0, locals := 0 }),
  (yX10_drawsOne, cX10_drawsOne, 4, none, { frames := 3, cells := 0, slots := 0, locals := 71 }),
  (yX10_draw, cX10_draw, 4, some .int, { frames := 4, cells := 0, slots := 0, locals := 94 }),
  (yX10_seed, cX10_seed, 3, some .int, { frames := 0, cells := 0, slots := 0, locals := 0 }),
  (yX10_paint, cX10_paint, 5, some .int, { frames := 2, cells := 0, slots := 0, locals := 47 }),
  (yX10_turn, cX10_turn, 5, some .int, { frames := 2, cells := 0, slots := 0, locals := 49 }),
  (yX10_dearest, cX10_dearest, 11, some .int, { frames := 4, cells := 0, slots := 0, locals := 93 }),
  (yX10_nearestOn, cX10_nearestOn, 4, some .int, { frames := 3, cells := 0, slots := 0, locals := 70 }),
  (yX10_toMiddle, cX10_toMiddle, 5, none, { frames := 2, cells := 0, slots := 0, locals := 49 }),
  (yX10_isElsewhere, cX10_isElsewhere, 4, some .boolean, { frames := 1, cells := 0, slots := 0, locals := 21 }),
  (yX10_round, cX10_round, 3, none, { frames := 6, cells := 0, slots := 0, locals := 136 }),
  (yX10_notes, cX10_notes, 3, none, { frames := 0, cells := 0, slots := 0, locals := 0 }),
  (yX10_rounds, cX10_rounds, 4, some .int, { frames := 7, cells := 0, slots := 0, locals := 158 }),
  (yX10_steps, cX10_steps, 3, some .int, { frames := 1, cells := 0, slots := 0, locals := 25 }),
  (yX10_puts, cX10_puts, 2, none, { frames := 0, cells := 0, slots := 0, locals := 0 }),
  (yX10_takesBack, cX10_takesBack, 2, none, { frames := 0, cells := 0, slots := 0, locals := 0 }),
  (yX10_moves, cX10_moves, 1, some .int, { frames := 7, cells := 0, slots := 0, locals := 158 }),
  (yX10_till, cX10_till, 4, some .int, { frames := 7, cells := 0, slots := 0, locals := 158 }),
  (yX10_apart, cX10_apart, 20, some .int, { frames := 0, cells := 0, slots := 0, locals := 0 }),
  (yX10_step, cX10_step, 3, some .int, { frames := 7, cells := 0, slots := 0, locals := 158 }),
  (yX10_adapt, cX10_adapt, 7, some .int, { frames := 6, cells := 0, slots := 0, locals := 136 }),
  (yX10_spotOf, cX10_spotOf, 4, some .int, { frames := 2, cells := 0, slots := 0, locals := 47 }),
  (yX10_areBeside, cX10_areBeside, 5, some .boolean, { frames := 1, cells := 0, slots := 0, locals := 20 }),
  (yX10_meets, cX10_meets, 5, none, { frames := 2, cells := 0, slots := 0, locals := 44 }),
  (yX10_piecesOf, cX10_piecesOf, 4, some .int, { frames := 3, cells := 0, slots := 0, locals := 68 }),
  (yX10_costOf, cX10_costOf, 5, some .int, { frames := 3, cells := 0, slots := 0, locals := 69 }),
  (yX10_dot, cX10_dot, 5, some .int, { frames := 6, cells := 0, slots := 0, locals := 136 })]
def mtI_5 : List (Nat × Nat × Nat × Nat × Nat × Nat) := [(0, 2, 12212, 7011, 12211, 4006), (0, 2, 12228, 7011, 12227, 4010), (0, 1, 12208, 7011, 12207, 4005), (0, 0, 12204, 7011, 12203, 4004), (0, 0, 12237, 7011, 12236, 4012), (0, 3, 12134, 7011, 12133, 3010), (0, 0, 13165, 7011, 13164, 6001), (0, 2, 12104, 7011, 12103, 3006), (0, 2, 12076, 7011, 12074, 12075), (0, 1, 12126, 7011, 12125, 3009), (0, 1, 12118, 7011, 12116, 12117), (0, 3, 12130, 7011, 12128, 12129), (0, 1, 12163, 7011, 12162, 4000), (0, 1, 12174, 7011, 12173, 4002), (0, 0, 12170, 7011, 12169, 4001), (0, 1, 12150, 7011, 12148, 12149), (0, 1, 12182, 7011, 12180, 12181), (0, 3, 12186, 7011, 12184, 12185), (0, 0, 12195, 7011, 12193, 12194), (0, 1, 13009, 7011, 13008, 4015), (0, 1, 13013, 7011, 13012, 5000), (0, 1, 13005, 7011, 13004, 4014), (0, 3, 13017, 7011, 13016, 5001), (0, 0, 12233, 7011, 12232, 4011), (0, 1, 13021, 7011, 13020, 5002), (0, 1, 12199, 7011, 12197, 12198), (0, 2, 13025, 7011, 13023, 13024), (0, 0, 13033, 7011, 13032, 5003), (0, 0, 13037, 7011, 13036, 5004), (0, 0, 13029, 7011, 13027, 13028), (0, 1, 13041, 7011, 13039, 13040), (1, 6, 13048, 7011, 13047, 0), (0, 1, 13045, 7011, 13043, 13044), (0, 2, 13052, 7011, 13050, 13051), (0, 1, 13065, 7011, 13064, 5006), (0, 2, 13077, 7011, 13076, 5009), (0, 1, 13073, 7011, 13072, 5008), (0, 1, 13069, 7011, 13068, 5007), (0, 1, 13061, 7011, 13060, 5005), (0, 2, 13057, 7011, 13055, 13056)]
def mtl_6 : List MD := [
  (yX10_spotsAt, cX10_spotsAt, 4, some .int, { frames := 3, cells := 0, slots := 0, locals := 70 }),
  (yX10_cell, cX10_cell, 5, some .int, { frames := 4, cells := 0, slots := 0, locals := 94 }),
  (yX10_near, cX10_near, 8, some .int, { frames := 3, cells := 0, slots := 0, locals := 70 }),
  (yX10_far, cX10_far, 7, some .int, { frames := 2, cells := 0, slots := 0, locals := 47 }),
  (yX10_around, cX10_around, 6, some .int, { frames := 2, cells := 0, slots := 0, locals := 47 }),
  (yX10_ring, cX10_ring, 4, some .int, { frames := 4, cells := 0, slots := 0, locals := 94 }),
  (yX10_closest, cX10_closest, 8, some .int, { frames := 1, cells := 0, slots := 0, locals := 39 }),
  (yX10_loads, cX10_loads, 6, some .int, { frames := 6, cells := 0, slots := 0, locals := 136 }),
  (yX10_touches, cX10_touches, 7, some .int, { frames := 2, cells := 0, slots := 0, locals := 44 }),
  (yX10_touch, cX10_touch, 3, some .int, { frames := 5, cells := 0, slots := 0, locals := 115 }),
  (yX10_way, cX10_way, 6, some .int, { frames := 5, cells := 0, slots := 0, locals := 115 }),
  (yX10_ownersOf, cX10_ownersOf, 6, some .int, { frames := 2, cells := 0, slots := 0, locals := 40 }),
  (yX10_shade, cX10_shade, 5, some .int, { frames := 5, cells := 0, slots := 0, locals := 115 }),
  (yX10_isWithin, cX10_isWithin, 6, some .boolean, { frames := 1, cells := 0, slots := 0, locals := 25 }),
  (yX10_weightsIn, cX10_weightsIn, 7, some .int, { frames := 2, cells := 0, slots := 0, locals := 50 }),
  (yX10_laysSpots, cX10_laysSpots, 2, none, { frames := 3, cells := 0, slots := 0, locals := 70 }),
  (yX10_dotsIn, cX10_dotsIn, 7, some .int, { frames := 2, cells := 0, slots := 0, locals := 50 }),
  (yX10_tone, cX10_tone, 6, some .int, { frames := 4, cells := 0, slots := 0, locals := 91 }),
  (yX10_uneven, cX10_uneven, 9, some .int, { frames := 4, cells := 0, slots := 0, locals := 91 }),
  (yX10_lossOf, cX10_lossOf, 2, some .int, { frames := 5, cells := 0, slots := 0, locals := 118 }),
  (yX10_loss, cX10_loss, 2, some .int, { frames := 6, cells := 0, slots := 0, locals := 139 }),
  (yX10_idle, cX10_idle, 5, some .int, { frames := 6, cells := 0, slots := 0, locals := 139 }),
  (yX10_costWith, cX10_costWith, 11, some .long, { frames := 3, cells := 0, slots := 0, locals := 69 }),
  (yX10_more, cX10_more, 8, some .int, { frames := 5, cells := 0, slots := 0, locals := 115 }),
  (yX10_costMoved, cX10_costMoved, 12, some .long, { frames := 3, cells := 0, slots := 0, locals := 69 }),
  (yX10_best, cX10_best, 9, some .int, { frames := 4, cells := 0, slots := 0, locals := 100 }),
  (yX10_ties, cX10_ties, 7, some .int, { frames := 4, cells := 0, slots := 0, locals := 94 }),
  (yX10_farthestOf, cX10_farthestOf, 4, some .int, { frames := 2, cells := 0, slots := 0, locals := 47 }),
  (yX10_outside, cX10_outside, 5, some .int, { frames := 2, cells := 0, slots := 0, locals := 40 }),
  (yX10_edge, cX10_edge, 5, some .int, { frames := 5, cells := 0, slots := 0, locals := 115 }),
  (yX10_due, cX10_due, 7, some .int, { frames := 3, cells := 0, slots := 0, locals := 62 }),
  (yX10_isBox, cX10_isBox, 2, some .boolean, { frames := 1, cells := 0, slots := 0, locals := 25 }),
  (yX10_image, cX10_image, 3, some .int, { frames := 2, cells := 0, slots := 0, locals := 46 }),
  (yX10_back, cX10_back, 3, some .int, { frames := 2, cells := 0, slots := 0, locals := 46 }),
  (yX10_otherOwners, cX10_otherOwners, 4, some .int, { frames := 5, cells := 0, slots := 0, locals := 115 }),
  (yX10_against, cX10_against, 6, some .int, { frames := 6, cells := 0, slots := 0, locals := 138 }),
  (yX10_emptyOnes, cX10_emptyOnes, 3, some .int, { frames := 6, cells := 0, slots := 0, locals := 136 }),
  (yX10_about, cX10_about, 2, some .int, { frames := 7, cells := 0, slots := 0, locals := 158 }),
  (yL_law, code, 4, some .boolean, { frames := 11, cells := 600000, slots := 7302250, locals := 382 }),
  (yJ9_floorMod_7cf53, cJ9_floorMod_7cf53, 3, some .int, { frames := 0, cells := 0, slots := 0, locals := 0 })]
def mtI_6 : List (Nat × Nat × Nat × Nat × Nat × Nat) := [(0, 1, 13085, 7011, 13084, 5010), (0, 3, 13081, 7011, 13079, 13080), (0, 3, 13089, 7011, 13087, 13088), (0, 4, 13093, 7011, 13091, 13092), (0, 3, 13097, 7011, 13095, 13096), (0, 2, 13102, 7011, 13100, 13101), (0, 1, 13109, 7011, 13107, 13108), (0, 1, 13114, 7011, 13112, 13113), (0, 2, 13123, 7011, 13122, 5011), (0, 2, 13119, 7011, 13117, 13118), (0, 2, 13127, 7011, 13125, 13126), (0, 1, 13135, 7011, 13134, 5012), (0, 2, 13131, 7011, 13129, 13130), (0, 5, 13151, 7011, 13150, 5015), (0, 4, 13147, 7011, 13146, 5014), (0, 0, 13143, 7011, 13142, 5013), (0, 4, 13155, 7011, 13154, 6000), (0, 5, 13139, 7011, 13137, 13138), (0, 2, 13159, 7011, 13157, 13158), (0, 1, 13173, 7011, 13172, 6002), (0, 1, 13169, 7011, 13167, 13168), (0, 0, 13177, 7011, 13175, 13176), (0, 1, 13185, 7011, 13184, 6003), (0, 1, 13181, 7011, 13179, 13180), (0, 2, 13193, 7011, 13192, 6004), (0, 2, 13189, 7011, 13187, 13188), (0, 2, 13197, 7011, 13195, 13196), (0, 1, 13205, 7011, 13204, 6005), (0, 1, 13209, 7011, 13208, 6006), (0, 2, 13201, 7011, 13199, 13200), (0, 1, 13213, 7011, 13211, 13212), (0, 1, 13221, 7011, 13220, 6007), (0, 1, 13217, 7011, 13215, 13216), (0, 1, 13225, 7011, 13223, 13224), (0, 1, 13233, 7011, 13232, 6008), (0, 2, 13229, 7011, 13227, 13228), (0, 0, 14001, 7011, 14000, 6009), (0, 1, 13237, 7011, 13235, 13236), (9, 0, 0, 0, 0, 0), (1, 2, 11020, 7018, 11019, 0)]
def mtl_7 : List MD := [
  (yJ9_abs_0f7a4, cJ9_abs_0f7a4, 1, some .int, { frames := 0, cells := 0, slots := 0, locals := 0 }),
  (yJ9_max_7cf53, cJ9_max_7cf53, 2, some .int, { frames := 0, cells := 0, slots := 0, locals := 0 }),
  (yJ9_min_7cf53, cJ9_min_7cf53, 2, some .int, { frames := 0, cells := 0, slots := 0, locals := 0 }),
  (yJ0_length_8abf5, cJ0_length_8abf5, 1, some .int, { frames := 1, cells := 0, slots := 0, locals := 20 }),
  (yJ0_charAt_5068e, cJ0_charAt_5068e, 2, some .char, { frames := 3, cells := 0, slots := 0, locals := 64 }),
  (yJ0_coder_7d493, cJ0_coder_7d493, 1, some .byte, { frames := 0, cells := 0, slots := 0, locals := 0 }),
  (yJ0_isLatin1_aae02, cJ0_isLatin1_aae02, 1, some .boolean, { frames := 0, cells := 0, slots := 0, locals := 0 }),
  (yJ0_checkIndex_df160, cJ0_checkIndex_df160, 2, none, { frames := 1, cells := 0, slots := 0, locals := 22 }),
  (yJ1_charAt_3b067, cJ1_charAt_3b067, 2, some .char, { frames := 2, cells := 0, slots := 0, locals := 43 }),
  (yJ7_fill_d0a16, cJ7_fill_d0a16, 5, none, { frames := 0, cells := 0, slots := 0, locals := 0 }),
  (yJ7_fill_53178, cJ7_fill_53178, 4, none, { frames := 0, cells := 0, slots := 0, locals := 0 }),
  (yJ3_checkIndex_8e157, cJ3_checkIndex_8e157, 3, some .int, { frames := 0, cells := 0, slots := 0, locals := 0 })]
def mtI_7 : List (Nat × Nat × Nat × Nat × Nat × Nat) := [(1, 1, 10090, 7018, 10089, 0), (1, 2, 10093, 7018, 10092, 0), (1, 2, 9208, 7018, 9207, 0), (0, 0, 8170, 7013, 8168, 8169), (0, 1, 8180, 7013, 8178, 8179), (0, 0, 8174, 7013, 8172, 8173), (0, 0, 8184, 7013, 8182, 8183), (1, 2, 8190, 7013, 8189, 0), (1, 2, 8187, 7014, 8186, 0), (1, 2, 9173, 7012, 9172, 0), (1, 2, 8154, 7012, 8153, 0), (1, 3, 8195, 7015, 8194, 0)]
def mtl : List MD := mtl_0 ++ (mtl_1 ++ (mtl_2 ++ (mtl_3 ++ (mtl_4 ++ (mtl_5 ++ (mtl_6 ++ (mtl_7)))))))
def mtI : List (Nat × Nat × Nat × Nat × Nat × Nat) := mtI_0 ++ (mtI_1 ++ (mtI_2 ++ (mtI_3 ++ (mtI_4 ++ (mtI_5 ++ (mtI_6 ++ (mtI_7)))))))
def dMD : MD := (yX7_size, cX7_size, 1, some .int, { frames := 0, cells := 0, slots := 0, locals := 0 })
def mt (a : Nat) : MD := (mtl[a]?).getD dMD
def mtK (a : Nat) : Nat × Nat × Nat × Nat × Nat × Nat := (mtI[a]?).getD (9, 0, 0, 0, 0, 0)
def lw_tabs : List (List Cond) := [k2_sels lw_privs_1, k2_sels lw_privs_2, k2_sels lw_privs_3, k2_sels lw_privs_4, k2_sels lw_privs_5, k2_sels lw_privs_6, k2_sels lw_privs_7, tables_1_1, tables_1_2, tables_1_3, tables_1_4, tables_1_5, tables_1_6, tables_1_7, tables_1_8]
theorem lw_tabs_in {L : List Cond} (h : L ∈ lw_tabs) {w : Cond} (hw : w ∈ L) : w ∈ lw_tbl := by
  simp only [lw_tabs, List.mem_cons, List.not_mem_nil, or_false] at h
  simp only [lw_tbl, lw_privs, k2_sels, tables_1, List.map_append, List.mem_append]
  rcases h with rfl | rfl | rfl | rfl | rfl | rfl | rfl | rfl | rfl | rfl | rfl | rfl | rfl | rfl | rfl <;> (try simp only [k2_sels] at hw) <;> simp only [hw, true_or, or_true]
def wIn (i : Nat) (w : Cond) : Bool := match lw_tabs[i / 1000]? with
  | some L => decide (L[i % 1000]? = some w)
  | none => false
def wIs (i : Nat) (w : Cond) : Bool := wIn i w && goodWord w
theorem wIn.mem {i : Nat} {w : Cond} (h : wIn i w = true) : w ∈ lw_tbl := by
  unfold wIn at h
  cases hL : lw_tabs[i / 1000]? with
  | none => simp [hL] at h
  | some L =>
    simp only [hL, decide_eq_true_eq] at h
    exact lw_tabs_in (List.mem_of_getElem? hL) (List.mem_of_getElem? h)
theorem wIs.mem {i : Nat} {w : Cond} (h : wIs i w = true) : w ∈ lw_ok := by
  simp only [wIs, Bool.and_eq_true] at h
  exact lw_ok_in (wIn.mem h.1) h.2
def mOK (N : MD) (q : Nat × Nat × Nat × Nat × Nat × Nat) : Bool := wIs q.2.2.1 (.code (mdN N) (mdB N) (mdL N) (mdT N)) && (wIs q.2.2.2.1 (.initialized (mdN N).cls) && (decide ((mdN N).cls ≠ "java/lang/invoke/MethodHandle") && (decide ((mdN N).cls ≠ "java/lang/invoke/VarHandle") && (decide ((parseMethodDescriptor (mdN N).desc).map (fun d => d.parameters.length) = some q.2.1) && (plainFor (mdN N) && (
  if q.1 = 0 then wIs q.2.2.2.2.1 (.instanceMethod (mdN N)) && wIs q.2.2.2.2.2 (.selects (mdN N).cls (mdN N) (mdN N)) else if q.1 = 1 then wIs q.2.2.2.2.1 (.static (mdN N)) else (wIs q.2.2.2.2.1 (.instanceMethod (mdN N)) && (decide ((mdN N).name = "<init>") && decide (mdT N = none))) ))))))
