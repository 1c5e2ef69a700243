/-! what the objects are, in the order of their making; which references never change (by program) -/
def shpL : List (Nat × Nat) := [(1, 10), (1, 9), (2, 75), (7, 30), (2, 75), (2, 75), (2, 75), (2, 75), (2, 75), (2, 75), (2, 75), (2, 75), (2, 75), (2, 75), (2, 75), (2, 75), (2, 75), (2, 75), (2, 75), (2, 75), (2, 75), (2, 75), (2, 75), (2, 75), (2, 75), (2, 75), (2, 75), (2, 75), (2, 75), (2, 75), (2, 75), (2, 75), (2, 75), (2, 75), (2, 6), (2, 6), (2, 36), (2, 8), (2, 8), (2, 5), (2, 5), (1, 9), (2, 75), (7, 30), (2, 75), (2, 75), (2, 75), (2, 75), (2, 75), (2, 75), (2, 75), (2, 75), (2, 75), (2, 75), (2, 75), (2, 75), (2, 75), (2, 75), (2, 75), (2, 75), (2, 75), (2, 75), (2, 75), (2, 75), (2, 75), (2, 75), (2, 75), (2, 75), (2, 75), (2, 75), (2, 75), (2, 75), (2, 75), (2, 75), (2, 6), (2, 6), (2, 36), (2, 8), (2, 8), (2, 5), (2, 5), (5, 4), (2, 300), (1, 5), (6, 64), (1, 3), (1, 0), (2, 1000), (1, 7), (2, 300), (2, 5), (2, 5), (2, 96), (1, 7), (2, 300), (2, 5), (2, 5), (2, 96), (1, 7), (2, 300), (2, 5), (2, 5), (2, 96), (1, 7), (2, 300), (2, 5), (2, 5), (2, 96), (1, 4), (2, 64), (1, 1), (1, 2), (2, 75), (2, 60), (2, 6), (1, 6), (2, 6), (2, 6), (3, 100), (3, 65), (1, 11), (2, 4016), (2, 4016), (2, 2820), (2, 300), (2, 160), (2, 8), (4, 330), (3, 330), (2, 84), (2, 6), (2, 6), (2, 5), (2, 60), (2, 6), (3, 100), (2, 6000)]
def fixL : List (List (Nat × Nat)) := [[(0, 1), (1, 41), (2, 81), (3, 82), (5, 83), (6, 110), (7, 111), (8, 115), (9, 108), (10, 85), (11, 86)], [(0, 2), (1, 3), (5, 34), (7, 35), (8, 36), (12, 37), (13, 38), (15, 39), (17, 40)], [], [], [], [], [], [], [], [], [], [], [], [], [], [], [], [], [], [], [], [], [], [], [], [], [], [], [], [], [], [], [], [], [], [], [], [], [], [], [], [(0, 42), (1, 43), (5, 74), (7, 75), (8, 76), (12, 77), (13, 78), (15, 79), (17, 80)], [], [], [], [], [], [], [], [], [], [], [], [], [], [], [], [], [], [], [], [], [], [], [], [], [], [], [], [], [], [], [], [], [], [], [], [], [], [], [], [], [], [(0, 82), (10, 84)], [], [], [(0, 87)], [], [(0, 89), (2, 90), (3, 91), (4, 92)], [], [], [], [], [(0, 94), (2, 95), (3, 96), (4, 97)], [], [], [], [], [(0, 99), (2, 100), (3, 101), (4, 102)], [], [], [], [], [(0, 104), (2, 105), (3, 106), (4, 107)], [], [], [], [], [(0, 1), (1, 81), (2, 109)], [], [(0, 1), (1, 108)], [(0, 1), (1, 110), (2, 112), (7, 113), (9, 114)], [], [], [], [(0, 1), (1, 108), (2, 116), (3, 117), (4, 118), (5, 119)], [], [], [], [], [(0, 121), (1, 122), (2, 123), (3, 124), (15, 125), (21, 126), (22, 127), (23, 128), (29, 129), (30, 130), (31, 131), (32, 132), (33, 133), (34, 134), (36, 135), (37, 136)], [], [], [], [], [], [], [], [], [], [], [], [], [], [], [], []]
def NOB : Nat := 137
def idKa : Nat := 3
def idKb : Nat := 43
def idTs : Nat := 81
def idT0 : Nat := 88
def wordT : List (Nat × Int32 × Int32 × Int32 × Nat) := [(90000, 0, (-1), 0, 91000), (90001, 1, (-1), 0, 91001), (90002, 2, (-1), 0, 91002), (90003, 3, (-1), 0, 91003), (90004, 4, (-1), 0, 91004), (90005, 5, (-1), 0, 91005), (90006, 6, (-1), 0, 91006), (90007, 7, (-1), 0, 91007), (90008, 8, (-1), 0, 91008), (90009, 9, (-1), 0, 91009), (90010, 10, 10000, 0, 91010), (90011, (-1), 10001, 0, 91011), (90012, (-1), 10002, 0, 91012), (90013, (-1), 10003, 0, 91013), (90014, (-1), 10004, 0, 91014), (90015, (-1), 10005, 0, 91015), (90016, (-1), 10006, 0, 91016), (90017, (-1), 10007, 0, 91017), (90018, (-1), (-1), 0, 91018), (90019, (-1), 10023, 0, 91019), (90020, (-1), 10011, 1, 91020), (90021, (-1), 10012, 2, 91021), (90022, (-1), 10008, 3, 91022), (90023, (-1), 10013, 4, 91023), (90024, (-1), 10014, 4, 91024), (90025, (-1), 10015, 4, 91025), (90026, (-1), 10016, 4, 91026), (90027, (-1), 10017, 4, 91027), (90028, (-1), 10018, 4, 91028), (90029, (-1), 10019, 5, 91029), (90030, (-1), 10020, 5, 91030), (90031, (-1), 10021, 6, 91031), (90032, (-1), 10022, 6, 91032), (90033, (-1), 10010, 0, 91033), (90034, (-1), (-1), 0, 91034), (90035, (-1), 10009, 0, 91035), (90036, (-1), (-1), 0, 91036), (90037, (-1), (-1), 0, 91037), (90038, (-1), (-1), 0, 91038), (90039, (-1), (-1), 0, 91035), (90040, (-1), (-1), 0, 91035), (90041, (-1), (-1), 0, 91035)]
def textT : List (Nat × Nat × List Int32) := [(91000, 92000, [99, 111, 109, 101, 115]), (91001, 92001, [98, 108, 111, 119, 115]), (91002, 92002, [116, 97, 107, 101, 115]), (91003, 92003, [99, 97, 116, 99, 104]), (91004, 92004, [100, 117, 101, 115]), (91005, 92005, [119, 105, 110, 100]), (91006, 92006, [118, 105, 108, 108, 97, 103, 101]), (91007, 92007, [119, 97, 121]), (91008, 92008, [112, 97, 121]), (91009, 92009, [109, 101, 114, 103, 101]), (91010, 92010, [100, 97, 121]), (91011, 92011, [113, 117, 97, 114, 116, 101, 114]), (91012, 92012, [111, 119, 101, 100]), (91013, 92013, [100, 117, 101]), (91014, 92014, [119, 101, 105, 103, 104, 116]), (91015, 92015, [102, 111, 114, 99, 101]), (91016, 92016, [114, 111, 111, 102]), (91017, 92017, [112, 117, 114, 115, 101]), (91018, 92018, [111, 102]), (91019, 92019, [116, 111]), (91020, 92020, [111, 114]), (91021, 92021, [97, 110, 100]), (91022, 92022, [110, 111, 116]), (91023, 92023, [60]), (91024, 92024, [60, 61]), (91025, 92025, [62]), (91026, 92026, [62, 61]), (91027, 92027, [61]), (91028, 92028, [35]), (91029, 92029, [43]), (91030, 92030, [45]), (91031, 92031, [42]), (91032, 92032, [47]), (91033, 92033, [100, 101, 98, 116]), (91034, 92034, [114, 111, 117, 110, 100]), (91035, 92035, []), (91036, 92036, [40]), (91037, 92037, [41]), (91038, 92038, [59])]
def nJ_max : Nat := 0
def nJ_min : Nat := 1
def nJ_maxL : Nat := 2
def nJ_minL : Nat := 3
def nJ_abs : Nat := 4
def nJ_floorDiv : Nat := 5
def nJ_bitCount : Nat := 6
def nJ_numberOfTrailingZeros : Nat := 7
def nS_length : Nat := 8
def nS_coder : Nat := 9
def nS_charAt : Nat := 10
def nS_isLatin1 : Nat := 11
def nS_checkIndex : Nat := 12
def nU_charAt : Nat := 13
def nP_checkIndex : Nat := 14
def nX_init : Nat := 15
def nX_wind : Nat := 16
def nX_village : Nat := 17
def nX_way : Nat := 18
def nX_feed : Nat := 19
def nX_feedFour : Nat := 20
def nX_end : Nat := 21
def nX_text : Nat := 22
def nX_fault : Nat := 23
def nX_by : Nat := 24
def nX_pay : Nat := 25
def nX_merge : Nat := 26
def nX_day : Nat := 27
def nX_played : Nat := 28
def nX_years : Nat := 29
def nX_undo : Nat := 30
def nX_ofWind : Nat := 31
def nX_ofVillage : Nat := 32
def nX_takes : Nat := 33
def nX_catches : Nat := 34
def nX_isForce : Nat := 35
def nX_isFar : Nat := 36
def nX_is : Nat := 37
def nX_book : Nat := 38
def nX_foretold : Nat := 39
def nX_purse : Nat := 40
def nX_owed : Nat := 41
def nX_arrears : Nat := 42
def nX_broke : Nat := 43
def nX_whose : Nat := 44
def nX_odds : Nat := 45
def nX_least : Nat := 46
def nX_share : Nat := 47
def nX_voyage : Nat := 48
def nX_took : Nat := 49
def nX_whoseWind : Nat := 50
def nX_strengths : Nat := 51
def nX_vane : Nat := 52
def nX_sail : Nat := 53
def nX_sails : Nat := 54
def nX_sure : Nat := 55
def nX_kind : Nat := 56
def nX_inKind : Nat := 57
def nX_calms : Nat := 58
def nX_strongest : Nat := 59
def nX_richest : Nat := 60
def nX_often : Nat := 61
def nX_worstDay : Nat := 62
def nX_image : Nat := 63
def nX_back : Nat := 64
def nX_about : Nat := 65
def nM_init : Nat := 66
def nM_copy : Nat := 67
def nM_isIn : Nat := 68
def nM_cut : Nat := 69
def nM_has : Nat := 70
def nM_bits : Nat := 71
def nM_isWind : Nat := 72
def nM_isVillage : Nat := 73
def nM_get : Nat := 74
def nM_put : Nat := 75
def nM_of : Nat := 76
def nM_lay : Nat := 77
def nM_isHere : Nat := 78
def nM_wind : Nat := 79
def nM_begin : Nat := 80
def nM_village : Nat := 81
def nM_way : Nat := 82
def nM_four : Nat := 83
def nM_feed : Nat := 84
def nM_end : Nat := 85
def nM_byteAt : Nat := 86
def nM_isLetterByte : Nat := 87
def nM_isFigure : Nat := 88
def nM_isSign : Nat := 89
def nM_nextToken : Nat := 90
def nM_w2 : Nat := 91
def nM_w3 : Nat := 92
def nM_w4 : Nat := 93
def nM_w5 : Nat := 94
def nM_w6 : Nat := 95
def nM_isWord : Nat := 96
def nM_emit : Nat := 97
def nM_isLong : Nat := 98
def nM_nameOf : Nat := 99
def nM_isOf : Nat := 100
def nM_rank : Nat := 101
def nM_settle : Nat := 102
def nM_isOpen : Nat := 103
def nM_isCompared : Nat := 104
def nM_isAskAhead : Nat := 105
def nM_opened : Nat := 106
def nM_beginOne : Nat := 107
def nM_endOne : Nat := 108
def nM_compareOf : Nat := 109
def nM_betweenOf : Nat := 110
def nM_behindOne : Nat := 111
def nM_parsed : Nat := 112
def nM_figure : Nat := 113
def nM_worded : Nat := 114
def nM_lawClause : Nat := 115
def nM_three : Nat := 116
def nM_two0 : Nat := 117
def nM_body : Nat := 118
def nM_sortOf : Nat := 119
def nM_clause : Nat := 120
def nM_readText : Nat := 121
def nM_text : Nat := 122
def nM_fault : Nat := 123
def nM_by : Nat := 124
def nM_clip : Nat := 125
def nM_two : Nat := 126
def nM_isAsked : Nat := 127
def nM_rounded : Nat := 128
def nM_debtOf : Nat := 129
def nM_joined : Nat := 130
def nM_work : Nat := 131
def nM_clauseOf : Nat := 132
def nM_says : Nat := 133
def nM_name : Nat := 134
def nM_isComing : Nat := 135
def nM_blowsOf : Nat := 136
def nM_blowsNow : Nat := 137
def nM_duesOf : Nat := 138
def nM_nameVillage : Nat := 139
def nM_takesOf : Nat := 140
def nM_catchOf : Nat := 141
def nM_weights : Nat := 142
def nM_anew : Nat := 143
def nM_drawn : Nat := 144
def nM_blow : Nat := 145
def nM_takeFrom : Nat := 146
def nM_write : Nat := 147
def nM_pass : Nat := 148
def nM_keep : Nat := 149
def nM_undo : Nat := 150
def nM_canPay : Nat := 151
def nM_payNow : Nat := 152
def nM_pay : Nat := 153
def nM_mergeNow : Nat := 154
def nM_merge : Nat := 155
def nM_arePassed : Nat := 156
def nM_day : Nat := 157
def nM_isPlayed : Nat := 158
def nM_played : Nat := 159
def nM_happens : Nat := 160
def nM_years : Nat := 161
def nM_ofWind : Nat := 162
def nM_ofVillage : Nat := 163
def nM_takes : Nat := 164
def nM_catches : Nat := 165
def nM_is : Nat := 166
def nM_shown : Nat := 167
def nM_entry : Nat := 168
def nM_book : Nat := 169
def nM_often : Nat := 170
def nM_worstDay : Nat := 171
def nM_strongest : Nat := 172
def nM_richest : Nat := 173
def nM_setAside : Nat := 174
def nM_putBack : Nat := 175
def nM_goOn : Nat := 176
def nM_behind : Nat := 177
def nM_takenIn : Nat := 178
def nM_foretold : Nat := 179
def nM_purse : Nat := 180
def nM_owed : Nat := 181
def nM_isInArrears : Nat := 182
def nM_arrears : Nat := 183
def nM_broke : Nat := 184
def nM_whose : Nat := 185
def nM_calms : Nat := 186
def nM_common : Nat := 187
def nM_part : Nat := 188
def nM_odds : Nat := 189
def nM_owedBy : Nat := 190
def nM_takenBy : Nat := 191
def nM_least : Nat := 192
def nM_nextRow : Nat := 193
def nM_added : Nat := 194
def nM_share : Nat := 195
def nM_laySpeeds : Nat := 196
def nM_reached : Nat := 197
def nM_arrival : Nat := 198
def nM_voyage : Nat := 199
def nM_took : Nat := 200
def nM_isFitting : Nat := 201
def nM_strengthsOf : Nat := 202
def nM_whoseWind : Nat := 203
def nM_strengths : Nat := 204
def nM_answers : Nat := 205
def nM_isRead : Nat := 206
def nM_vane : Nat := 207
def nM_sail : Nat := 208
def nM_paymentOf : Nat := 209
def nM_isTorn : Nat := 210
def nM_canTear : Nat := 211
def nM_sails : Nat := 212
def nM_sure : Nat := 213
def nM_kind : Nat := 214
def nM_layPieces : Nat := 215
def nM_inKind : Nat := 216
def nM_image : Nat := 217
def nM_back : Nat := 218
def nM_about : Nat := 219
def nC_init : Nat := 220
def nC_count : Nat := 221
def nC_piecesOf : Nat := 222
def nD_init : Nat := 223
def nD_wasCalm : Nat := 224
def nD_speed : Nat := 225
def nD_pass : Nat := 226
def nD_drawnWind : Nat := 227
def nD_drawX : Nat := 228
def nD_payByHand : Nat := 229
def nD_canPay : Nat := 230
def nD_payNow : Nat := 231
def nD_mergeByHand : Nat := 232
def nD_canMerge : Nat := 233
def nD_mergeNow : Nat := 234
def nD_passYears : Nat := 235
def nD_payByChance : Nat := 236
def nD_mergeByChance : Nat := 237
def nD_play : Nat := 238
def nD_perform : Nat := 239
def nF_init : Nat := 240
def nF_keepNow : Nat := 241
def nF_giveBack : Nat := 242
def nF_canPass : Nat := 243
def nF_takenUpTo : Nat := 244
def nF_taken : Nat := 245
def nF_later : Nat := 246
def nF_daysToArrears : Nat := 247
def nF_isAnyOwed : Nat := 248
def nF_isOwed : Nat := 249
def nF_daysToBroke : Nat := 250
def nF_mildestText : Nat := 251
def nF_findLeast : Nat := 252
def nF_penceFor : Nat := 253
def nF_payOff : Nat := 254
def nF_countCalms : Nat := 255
def nF_setOut : Nat := 256
def nF_foreseeSpeeds : Nat := 257
def nF_arrival : Nat := 258
def nF_isReached : Nat := 259
def nF_lastAhead : Nat := 260
def nQ_init : Nat := 261
def nQ_set : Nat := 262
def nQ_setOdds : Nat := 263
def nQ_setShare : Nat := 264
def nQ_mostOf : Nat := 265
def nL_init : Nat := 266
def nL_comesOf : Nat := 267
def nL_blowsOf : Nat := 268
def nL_duesOf : Nat := 269
def nL_takesOf : Nat := 270
def nL_catchOf : Nat := 271
def nL_rulingOn : Nat := 272
def nL_within : Nat := 273
def nL_reckoned : Nat := 274
def nL_named : Nat := 275
def nL_ofOne : Nat := 276
def nL_ofTwo : Nat := 277
def nL_nearest : Nat := 278
def nR_init : Nat := 279
def nR_read : Nat := 280
def nR_blame : Nat := 281
def nR_blameClause : Nat := 282
def nR_readDeed : Nat := 283
def nR_expect : Nat := 284
def nR_expectNumber : Nat := 285
def nR_readLaw : Nat := 286
def nR_top : Nat := 287
def nR_push : Nat := 288
def nR_isAtAsk : Nat := 289
def nR_readOne : Nat := 290
def nR_openOne : Nat := 291
def nR_closeOne : Nat := 292
def nR_readBehindOne : Nat := 293
def nR_readBehindSum : Nat := 294
def nR_putDownTo : Nat := 295
def nR_advance : Nat := 296
def nR_readNumber : Nat := 297
def nR_isLetter : Nat := 298
def nR_isDigit : Nat := 299
def nR_spelled : Nat := 300
def nR_isSpelled : Nat := 301
def nZ_init : Nat := 302
def nZ_findTakes : Nat := 303
def nZ_fittingForces : Nat := 304
def nZ_fits : Nat := 305
def nZ_fittingWinds : Nat := 306
def nZ_nextVane : Nat := 307
def nZ_isTookOf : Nat := 308
def nZ_unlikeAnswers : Nat := 309
def nZ_findSails : Nat := 310
def nZ_rows : Nat := 311
def nZ_payment : Nat := 312
def nZ_isSo : Nat := 313
def nZ_countRows : Nat := 314
def nZ_surePayment : Nat := 315
def nT_init : Nat := 316
def nT_clear : Nat := 317
def nT_hasLaw : Nat := 318
def nT_beginLaw : Nat := 319
def nT_endLaw : Nat := 320
def nT_put : Nat := 321
def nT_addClause : Nat := 322
def nK_isName : Nat := 323
def nK_isNameOf : Nat := 324
def nK_compares : Nat := 325
def nW_init : Nat := 326
def nW_copyFrom : Nat := 327
def nW_copyRow : Nat := 328
def nW_isWind : Nat := 329
def nW_isHere : Nat := 330
def nW_weightOf : Nat := 331
def nW_weightOfAll : Nat := 332
def nW_isVillage : Nat := 333
def nW_isText : Nat := 334
def nW_daysLeft : Nat := 335
def nW_tellWind : Nat := 336
def nW_setWind : Nat := 337
def nW_tellVillage : Nat := 338
def nW_setVillage : Nat := 339
def nW_tellWay : Nat := 340
def nW_lengthOf : Nat := 341
def nW_keepStep : Nat := 342
def nW_takeBack : Nat := 343
def nW_pages : Nat := 344
def nW_writePage : Nat := 345
def nW_page : Nat := 346
def mxlL : List Nat := [2, 2, 4, 4, 1, 3, 1, 2, 1, 1, 2, 1, 2, 2, 3, 2, 4, 3, 4, 6, 3, 2, 2, 2, 2, 4, 3, 4, 2, 3, 1, 3, 3, 5, 5, 1, 1, 2, 3, 2, 3, 3, 1, 2, 2, 4, 4, 7, 4, 3, 1, 2, 1, 2, 3, 4, 2, 3, 3, 5, 4, 4, 4, 1, 1, 2, 1, 3, 3, 4, 2, 3, 2, 2, 3, 4, 3, 4, 2, 5, 2, 4, 4, 3, 6, 2, 2, 1, 1, 1, 2, 2, 3, 4, 5, 6, 3, 3, 5, 1, 2, 1, 2, 2, 2, 1, 2, 2, 1, 1, 1, 2, 3, 4, 6, 4, 11, 7, 3, 1, 5, 2, 1, 2, 2, 2, 5, 5, 8, 3, 3, 9, 3, 5, 4, 3, 4, 2, 2, 5, 4, 4, 3, 1, 3, 2, 3, 2, 2, 4, 4, 4, 4, 4, 3, 3, 3, 2, 5, 3, 5, 5, 3, 3, 4, 4, 2, 1, 4, 3, 4, 3, 5, 3, 2, 2, 1, 4, 2, 2, 3, 3, 2, 3, 4, 7, 7, 10, 5, 11, 5, 4, 7, 7, 6, 10, 3, 5, 4, 7, 3, 4, 4, 3, 2, 5, 3, 4, 2, 2, 8, 3, 5, 6, 2, 6, 6, 1, 1, 2, 1, 7, 7, 3, 1, 2, 5, 5, 2, 4, 4, 4, 3, 3, 5, 5, 4, 4, 5, 6, 3, 1, 1, 2, 6, 3, 4, 4, 2, 2, 5, 7, 5, 4, 3, 5, 5, 2, 5, 2, 3, 1, 12, 13, 11, 4, 3, 3, 4, 4, 6, 6, 3, 2, 11, 6, 3, 3, 3, 2, 5, 2, 2, 5, 2, 4, 3, 1, 2, 2, 1, 2, 1, 1, 1, 2, 2, 1, 1, 1, 2, 3, 3, 4, 4, 4, 3, 5, 3, 6, 8, 1, 2, 4, 3, 4, 1, 2, 2, 2, 2, 2, 6, 1, 2, 1, 1, 3, 2, 2, 2, 2, 3, 2, 2, 1, 5, 4, 4, 3, 4, 3, 1, 1, 1, 5, 4]
def mxl (y : Nat) : Nat := mxlL.getD y 0
def nalL : List Nat := [0, 0, 0, 0, 0, 0, 0, 0, 0, 0, 0, 0, 0, 0, 0, 119, 0, 0, 0, 0, 0, 0, 0, 0, 0, 0, 0, 0, 0, 0, 0, 0, 0, 0, 0, 0, 0, 0, 0, 0, 0, 0, 0, 0, 0, 0, 0, 0, 0, 0, 0, 0, 0, 0, 0, 0, 0, 0, 0, 0, 0, 0, 0, 0, 0, 0, 16, 0, 0, 0, 0, 0, 0, 0, 0, 0, 0, 0, 0, 0, 0, 0, 0, 0, 0, 0, 0, 0, 0, 0, 0, 0, 0, 0, 0, 0, 0, 0, 0, 0, 0, 0, 0, 0, 0, 0, 0, 0, 0, 0, 0, 0, 0, 0, 0, 0, 0, 0, 0, 0, 0, 0, 0, 0, 0, 0, 0, 0, 0, 0, 0, 0, 0, 0, 0, 0, 0, 0, 0, 0, 0, 0, 0, 0, 0, 0, 0, 0, 0, 0, 0, 0, 0, 0, 0, 0, 0, 0, 0, 0, 0, 0, 0, 0, 0, 0, 0, 0, 0, 0, 0, 0, 0, 0, 0, 0, 0, 0, 0, 0, 0, 0, 0, 0, 0, 0, 0, 0, 0, 0, 0, 0, 0, 0, 0, 0, 0, 0, 0, 0, 0, 0, 0, 0, 0, 0, 0, 0, 0, 0, 0, 0, 0, 0, 0, 0, 0, 0, 0, 0, 1, 0, 0, 0, 0, 0, 0, 0, 0, 0, 0, 0, 0, 0, 0, 0, 0, 0, 0, 0, 3, 0, 0, 0, 0, 0, 0, 0, 0, 0, 0, 0, 0, 0, 0, 0, 0, 0, 0, 0, 0, 0, 0, 0, 0, 0, 1, 0, 0, 0, 0, 0, 0, 0, 0, 0, 0, 0, 0, 1, 0, 0, 0, 0, 0, 0, 0, 0, 0, 0, 0, 0, 0, 0, 0, 0, 0, 0, 0, 0, 0, 0, 4, 0, 0, 0, 0, 0, 0, 0, 0, 0, 0, 0, 0, 0, 4, 0, 0, 0, 0, 0, 0, 0, 0, 0, 39, 0, 0, 0, 0, 0, 0, 0, 0, 0, 0, 0, 0, 0, 0, 0, 0, 0, 0, 0, 0]
def nal (cx : Bool) (y : Nat) : Nat := cond cx 0 (nalL.getD y 0)
/-! THE PURE MACHINE: a store of ints, longs and references by numbers of objects; bytecode as continuations. -/
def NUL : Nat := 99999
def SCR : Nat := 95000
abbrev Sg : Type := (Nat → Nat → Int32) × (Nat → Nat → Int64) × (Nat → Nat → Nat) × Nat × Nat
def gI (σ : Sg) (a k : Nat) : Int32 := σ.1 a k
def gL (σ : Sg) (a k : Nat) : Int64 := σ.2.1 a k
def gR (σ : Sg) (a k : Nat) : Nat := σ.2.2.1 a k
def nx (σ : Sg) : Nat := σ.2.2.2.1
def ln (σ : Sg) : Nat := σ.2.2.2.2
def sI (σ : Sg) (a k : Nat) (v : Int32) : Sg := (fun x y => if x = a ∧ y = k then v else σ.1 x y, σ.2)
def sL (σ : Sg) (a k : Nat) (v : Int64) : Sg := (σ.1, fun x y => if x = a ∧ y = k then v else σ.2.1 x y, σ.2.2)
def sR (σ : Sg) (a k v : Nat) : Sg := (σ.1, σ.2.1, fun x y => if x = a ∧ y = k then v else σ.2.2.1 x y, σ.2.2.2)
/-- n ints of a from sp on, into b from dp on -/
def cpI (σ : Sg) (a sp b dp n : Nat) : Sg := (fun x y => if x = b then (if dp ≤ y ∧ y < dp + n then σ.1 a (sp + (y - dp)) else σ.1 b y) else σ.1 x y, σ.2)
/-- a new object, all 0 -/
def sN (σ : Sg) : Sg := (fun x y => if x = nx σ then 0 else σ.1 x y, fun x y => if x = nx σ then 0 else σ.2.1 x y, fun x y => if x = nx σ then NUL else σ.2.2.1 x y, nx σ + 1, ln σ)
/-- n rows and the array that holds them -/
def sM (σ : Sg) (n : Nat) : Sg := (fun x y => if nx σ ≤ x ∧ x < nx σ + (n + 1) then 0 else σ.1 x y, fun x y => if nx σ ≤ x ∧ x < nx σ + (n + 1) then 0 else σ.2.1 x y, fun x y => if x = nx σ then (if y < n then nx σ + 1 + y else NUL) else if nx σ < x ∧ x < nx σ + (n + 1) then NUL else σ.2.2.1 x y, nx σ + (n + 1), ln σ)
theorem gI_sI (σ : Sg) (a k : Nat) (v : Int32) (x y : Nat) : gI (sI σ a k v) x y = if x = a ∧ y = k then v else gI σ x y := rfl
theorem gI_sL (σ : Sg) (a k : Nat) (v : Int64) (x y : Nat) : gI (sL σ a k v) x y = gI σ x y := rfl
theorem gI_sR (σ : Sg) (a k v : Nat) (x y : Nat) : gI (sR σ a k v) x y = gI σ x y := rfl
theorem gL_sI (σ : Sg) (a k : Nat) (v : Int32) (x y : Nat) : gL (sI σ a k v) x y = gL σ x y := rfl
theorem gL_sL (σ : Sg) (a k : Nat) (v : Int64) (x y : Nat) : gL (sL σ a k v) x y = if x = a ∧ y = k then v else gL σ x y := rfl
theorem gL_sR (σ : Sg) (a k v : Nat) (x y : Nat) : gL (sR σ a k v) x y = gL σ x y := rfl
theorem gR_sI (σ : Sg) (a k : Nat) (v : Int32) (x y : Nat) : gR (sI σ a k v) x y = gR σ x y := rfl
theorem gR_sL (σ : Sg) (a k : Nat) (v : Int64) (x y : Nat) : gR (sL σ a k v) x y = gR σ x y := rfl
theorem gR_sR (σ : Sg) (a k v : Nat) (x y : Nat) : gR (sR σ a k v) x y = if x = a ∧ y = k then v else gR σ x y := rfl
theorem gI_cpI (σ : Sg) (a sp b dp n x y : Nat) : gI (cpI σ a sp b dp n) x y = if x = b then (if dp ≤ y ∧ y < dp + n then gI σ a (sp + (y - dp)) else gI σ b y) else gI σ x y := rfl
theorem gL_cpI (σ : Sg) (a sp b dp n x y : Nat) : gL (cpI σ a sp b dp n) x y = gL σ x y := rfl
theorem gR_cpI (σ : Sg) (a sp b dp n x y : Nat) : gR (cpI σ a sp b dp n) x y = gR σ x y := rfl
theorem nx_sI (σ : Sg) (a k : Nat) (v : Int32) : nx (sI σ a k v) = nx σ := rfl
theorem nx_sL (σ : Sg) (a k : Nat) (v : Int64) : nx (sL σ a k v) = nx σ := rfl
theorem nx_sR (σ : Sg) (a k v : Nat) : nx (sR σ a k v) = nx σ := rfl
theorem nx_cpI (σ : Sg) (a sp b dp n : Nat) : nx (cpI σ a sp b dp n) = nx σ := rfl
theorem ln_sI (σ : Sg) (a k : Nat) (v : Int32) : ln (sI σ a k v) = ln σ := rfl
theorem ln_sL (σ : Sg) (a k : Nat) (v : Int64) : ln (sL σ a k v) = ln σ := rfl
theorem ln_sR (σ : Sg) (a k v : Nat) : ln (sR σ a k v) = ln σ := rfl
theorem ln_cpI (σ : Sg) (a sp b dp n : Nat) : ln (cpI σ a sp b dp n) = ln σ := rfl
abbrev Ct : Type := List Value → List Value → Sg → Prop
abbrev Po : Type := Option Value → Sg → Prop
abbrev Cl : Type := Nat → List Value → Sg → Po → Prop
/-- the kind of an object: (1, class), or of an array: (2, n) ints, (3, n) booleans, (4, n) longs, (5, n) texts, (6, n) words, (7, n) rows of ints; (8, 0) the script -/
def shp (a : Nat) : Nat × Nat := cond (Nat.beq a SCR) (8, 0) (shpL.getD a (0, 0))
/-- the references that never change once all is made -/
def fixR (a k : Nat) : Option Nat := ((fixL.getD a []).find? (fun q => Nat.beq q.1 k)).map (fun q => q.2)
def keptR (a k : Nat) : Option Nat := cond (Nat.beq a idKa && Nat.blt k 30) (some (idKa + 1 + k)) (cond (Nat.beq a idKb && Nat.blt k 30) (some (idKb + 1 + k)) (cond (Nat.beq a idTs && Nat.blt k 4) (some (idT0 + 5 * k)) (fixR a k)))
/-- a reference as it is read: cx = all is made -/
def rfx (cx : Bool) (σ : Sg) (a k : Nat) : Nat := cond cx ((keptR a k).getD (gR σ a k)) (gR σ a k)
def nxx (cx : Bool) (σ : Sg) : Nat := cond cx NOB (nx σ)
def lvx (cx : Bool) (σ : Sg) (a : Nat) : Bool := cx || Nat.blt a (nx σ)
def isO (ci a : Nat) : Bool := match shp a with
  | (1, cj) => Nat.beq cj ci
  | _ => false
/-- a constant of Word; a String constant; its bytes -/
def wB (a : Nat) : Bool := Nat.ble 90000 a && Nat.blt a 90042
def tB (a : Nat) : Bool := Nat.ble 91000 a && Nat.blt a 91039
def bB (a : Nat) : Bool := Nat.ble 92000 a && Nat.blt a 92039
def zB (x : Int32) : Bool := x == 0 || x == 1
/-- may this reference be written? -/
def wrR (cx : Bool) (a k : Nat) : Bool := !cx || (keptR a k).isNone
def inb (i : Int32) (n : Nat) : Prop := 0 ≤ i.toInt ∧ i.toInt < (n : Int)
def ix (i : Int32) : Nat := i.toInt.toNat
def kil (ls : List Value) (i : Nat) : List Value := match i with
  | 0 => ls
  | j + 1 => match ls[j]? with
    | some (.long _) => ls.set j (.retAddr 0)
    | some (.double _) => ls.set j (.retAddr 0)
    | _ => ls
def o_ic (v : Int32) (c : Ct) : Ct := fun ls st σ => c ls (.int v :: st) σ
def o_lc (v : Int64) (c : Ct) : Ct := fun ls st σ => c ls (.long v :: st) σ
def o_nul (c : Ct) : Ct := fun ls st σ => c ls (.ref NUL :: st) σ
def o_il (i : Nat) (c : Ct) : Ct := fun ls st σ => match ls[i]? with
  | some (.int x) => c ls (.int x :: st) σ
  | _ => False
def o_ll (i : Nat) (c : Ct) : Ct := fun ls st σ => match ls[i]? with
  | some (.long x) => c ls (.long x :: st) σ
  | _ => False
def o_al (i : Nat) (c : Ct) : Ct := fun ls st σ => match ls[i]? with
  | some (.ref x) => c ls (.ref x :: st) σ
  | _ => False
def o_is (i : Nat) (c : Ct) : Ct := fun ls st σ => match st with
  | .int x :: r => c ((kil ls i).set i (.int x)) r σ
  | _ => False
def o_ls (i : Nat) (c : Ct) : Ct := fun ls st σ => match st with
  | .long x :: r => c (((kil ls i).set i (.long x)).set (i + 1) (.retAddr 0)) r σ
  | _ => False
def o_as (i : Nat) (c : Ct) : Ct := fun ls st σ => match st with
  | .ref x :: r => c ((kil ls i).set i (.ref x)) r σ
  | _ => False
def o_inc (i : Nat) (n : Int32) (c : Ct) : Ct := fun ls st σ => match ls[i]? with
  | some (.int x) => c (ls.set i (.int (x + n))) st σ
  | _ => False
def o_dup (c : Ct) : Ct := fun ls st σ => match st with
  | .int x :: r => c ls (.int x :: .int x :: r) σ
  | .ref x :: r => c ls (.ref x :: .ref x :: r) σ
  | _ => False
def o_dup2 (c : Ct) : Ct := fun ls st σ => match st with
  | .int x :: .ref y :: r => c ls (.int x :: .ref y :: .int x :: .ref y :: r) σ
  | _ => False
def o_pop (c : Ct) : Ct := fun ls st σ => match st with
  | .int _ :: r => c ls r σ
  | .ref _ :: r => c ls r σ
  | _ => False
def o_i2 (f : Int32 → Int32 → Int32) (c : Ct) : Ct := fun ls st σ => match st with
  | .int y :: .int x :: r => c ls (.int (f x y) :: r) σ
  | _ => False
def o_iadd (c : Ct) : Ct := fun ls st σ => match st with
  | .int y :: .int x :: r => c ls (.int (x + y) :: r) σ
  | _ => False
def o_isub (c : Ct) : Ct := fun ls st σ => match st with
  | .int y :: .int x :: r => c ls (.int (x - y) :: r) σ
  | _ => False
def o_imul (c : Ct) : Ct := fun ls st σ => match st with
  | .int y :: .int x :: r => c ls (.int (x * y) :: r) σ
  | _ => False
def o_iand (c : Ct) : Ct := fun ls st σ => match st with
  | .int y :: .int x :: r => c ls (.int (x &&& y) :: r) σ
  | _ => False
def o_ior (c : Ct) : Ct := fun ls st σ => match st with
  | .int y :: .int x :: r => c ls (.int (x ||| y) :: r) σ
  | _ => False
def o_ixor (c : Ct) : Ct := fun ls st σ => match st with
  | .int y :: .int x :: r => c ls (.int (x ^^^ y) :: r) σ
  | _ => False
def o_ishl (c : Ct) : Ct := fun ls st σ => match st with
  | .int y :: .int x :: r => c ls (.int (x <<< (y &&& 31)) :: r) σ
  | _ => False
def o_ishr (c : Ct) : Ct := fun ls st σ => match st with
  | .int y :: .int x :: r => c ls (.int (x >>> (y &&& 31)) :: r) σ
  | _ => False
def ushr (x y : Int32) : Int32 := (x.toUInt32 >>> (y.toUInt32 &&& Int32.toUInt32 31)).toInt32
def o_iushr (c : Ct) : Ct := fun ls st σ => match st with
  | .int y :: .int x :: r => c ls (.int (ushr x y) :: r) σ
  | _ => False
def o_idiv (c : Ct) : Ct := fun ls st σ => match st with
  | .int y :: .int x :: r => y ≠ 0 ∧ c ls (.int (x / y) :: r) σ
  | _ => False
def o_irem (c : Ct) : Ct := fun ls st σ => match st with
  | .int y :: .int x :: r => y ≠ 0 ∧ c ls (.int (x % y) :: r) σ
  | _ => False
def o_ineg (c : Ct) : Ct := fun ls st σ => match st with
  | .int x :: r => c ls (.int (-x) :: r) σ
  | _ => False
def o_ladd (c : Ct) : Ct := fun ls st σ => match st with
  | .long y :: .long x :: r => c ls (.long (x + y) :: r) σ
  | _ => False
def o_lsub (c : Ct) : Ct := fun ls st σ => match st with
  | .long y :: .long x :: r => c ls (.long (x - y) :: r) σ
  | _ => False
def o_lmul (c : Ct) : Ct := fun ls st σ => match st with
  | .long y :: .long x :: r => c ls (.long (x * y) :: r) σ
  | _ => False
def o_ldiv (c : Ct) : Ct := fun ls st σ => match st with
  | .long y :: .long x :: r => y ≠ 0 ∧ c ls (.long (x / y) :: r) σ
  | _ => False
def o_lrem (c : Ct) : Ct := fun ls st σ => match st with
  | .long y :: .long x :: r => y ≠ 0 ∧ c ls (.long (x % y) :: r) σ
  | _ => False
def o_lneg (c : Ct) : Ct := fun ls st σ => match st with
  | .long x :: r => c ls (.long (-x) :: r) σ
  | _ => False
def o_lor (c : Ct) : Ct := fun ls st σ => match st with
  | .long y :: .long x :: r => c ls (.long (x ||| y) :: r) σ
  | _ => False
def o_lshl (c : Ct) : Ct := fun ls st σ => match st with
  | .int y :: .long x :: r => c ls (.long (x <<< (y.toInt64 &&& 63)) :: r) σ
  | _ => False
def o_lshr (c : Ct) : Ct := fun ls st σ => match st with
  | .int y :: .long x :: r => c ls (.long (x >>> (y.toInt64 &&& 63)) :: r) σ
  | _ => False
def o_lcmp (c : Ct) : Ct := fun ls st σ => match st with
  | .long y :: .long x :: r => c ls (.int (lg_cmp x y) :: r) σ
  | _ => False
def o_i2l (c : Ct) : Ct := fun ls st σ => match st with
  | .int x :: r => c ls (.long x.toInt64 :: r) σ
  | _ => False
def o_l2i (c : Ct) : Ct := fun ls st σ => match st with
  | .long x :: r => c ls (.int x.toInt32 :: r) σ
  | _ => False
def o_i2c (c : Ct) : Ct := fun ls st σ => match st with
  | .int x :: r => c ls (.int (x.toUInt32 % 65536).toInt32 :: r) σ
  | _ => False
def o_ifeq (t f : Ct) : Ct := fun ls st σ => match st with
  | .int x :: r => if x = 0 then t ls r σ else f ls r σ
  | _ => False
def o_ifne (t f : Ct) : Ct := fun ls st σ => match st with
  | .int x :: r => if x = 0 then f ls r σ else t ls r σ
  | _ => False
def o_iflt (t f : Ct) : Ct := fun ls st σ => match st with
  | .int x :: r => if x < 0 then t ls r σ else f ls r σ
  | _ => False
def o_ifge (t f : Ct) : Ct := fun ls st σ => match st with
  | .int x :: r => if 0 ≤ x then t ls r σ else f ls r σ
  | _ => False
def o_ifgt (t f : Ct) : Ct := fun ls st σ => match st with
  | .int x :: r => if 0 < x then t ls r σ else f ls r σ
  | _ => False
def o_ifle (t f : Ct) : Ct := fun ls st σ => match st with
  | .int x :: r => if x ≤ 0 then t ls r σ else f ls r σ
  | _ => False
def o_iceq (t f : Ct) : Ct := fun ls st σ => match st with
  | .int y :: .int x :: r => if x = y then t ls r σ else f ls r σ
  | _ => False
def o_icne (t f : Ct) : Ct := fun ls st σ => match st with
  | .int y :: .int x :: r => if x = y then f ls r σ else t ls r σ
  | _ => False
def o_iclt (t f : Ct) : Ct := fun ls st σ => match st with
  | .int y :: .int x :: r => if x < y then t ls r σ else f ls r σ
  | _ => False
def o_icge (t f : Ct) : Ct := fun ls st σ => match st with
  | .int y :: .int x :: r => if y ≤ x then t ls r σ else f ls r σ
  | _ => False
def o_icgt (t f : Ct) : Ct := fun ls st σ => match st with
  | .int y :: .int x :: r => if y < x then t ls r σ else f ls r σ
  | _ => False
def o_icle (t f : Ct) : Ct := fun ls st σ => match st with
  | .int y :: .int x :: r => if x ≤ y then t ls r σ else f ls r σ
  | _ => False
def o_aceq (t f : Ct) : Ct := fun ls st σ => match st with
  | .ref y :: .ref x :: r => cond (wB y) (cond (wB x) (if x = y then t ls r σ else f ls r σ) False) False
  | _ => False
def o_acne (t f : Ct) : Ct := fun ls st σ => match st with
  | .ref y :: .ref x :: r => cond (wB y) (cond (wB x) (if x = y then f ls r σ else t ls r σ) False) False
  | _ => False
def o_ifnull (t f : Ct) : Ct := fun ls st σ => match st with
  | .ref x :: r => if x = NUL then t ls r σ else f ls r σ
  | _ => False
def o_ifnn (t f : Ct) : Ct := fun ls st σ => match st with
  | .ref x :: r => if x = NUL then f ls r σ else t ls r σ
  | _ => False
def tswL (x : Int32) : Int → List Ct → Ct → Ct
  | _, [], d => d
  | j, t :: ts, d => fun ls r σ => if x.toInt = j then t ls r σ else tswL x (j + 1) ts d ls r σ
def o_tsw (lo : Int) (ts : List Ct) (d : Ct) : Ct := fun ls st σ => match st with
  | .int x :: r => tswL x lo ts d ls r σ
  | _ => False
def o_gfi (cx : Bool) (ci k : Nat) (c : Ct) : Ct := fun ls st σ => match st with
  | .ref a :: r => cond (isO ci a && lvx cx σ a) (c ls (.int (gI σ a k) :: r) σ) False
  | _ => False
def o_gfl (cx : Bool) (ci k : Nat) (c : Ct) : Ct := fun ls st σ => match st with
  | .ref a :: r => cond (isO ci a && lvx cx σ a) (c ls (.long (gL σ a k) :: r) σ) False
  | _ => False
def o_gfr (cx : Bool) (ci k : Nat) (c : Ct) : Ct := fun ls st σ => match st with
  | .ref a :: r => cond (isO ci a && lvx cx σ a) (c ls (.ref (rfx cx σ a k) :: r) σ) False
  | _ => False
def o_pfi (cx : Bool) (ci k : Nat) (c : Ct) : Ct := fun ls st σ => match st with
  | .int x :: .ref a :: r => cond (isO ci a && lvx cx σ a) (c ls r (sI σ a k x)) False
  | _ => False
def o_pfz (cx : Bool) (ci k : Nat) (c : Ct) : Ct := fun ls st σ => match st with
  | .int x :: .ref a :: r => cond (isO ci a && lvx cx σ a) (cond (zB x) (c ls r (sI σ a k x)) False) False
  | _ => False
def o_pfl (cx : Bool) (ci k : Nat) (c : Ct) : Ct := fun ls st σ => match st with
  | .long x :: .ref a :: r => cond (isO ci a && lvx cx σ a) (c ls r (sL σ a k x)) False
  | _ => False
def o_pfr (cx : Bool) (ci k : Nat) (c : Ct) : Ct := fun ls st σ => match st with
  | .ref x :: .ref a :: r => cond (isO ci a && lvx cx σ a && wrR cx a k) (c ls r (sR σ a k x)) False
  | _ => False
def wfI (k a : Nat) : Int32 := match wordT.find? (fun q => Nat.beq q.1 a) with
  | some q => (match k with
    | 0 => q.2.1
    | 1 => q.2.2.1
    | _ => q.2.2.2.1)
  | none => 0
def wfS (a : Nat) : Nat := match wordT.find? (fun q => Nat.beq q.1 a) with
  | some q => q.2.2.2.2
  | none => 0
def tfV (a : Nat) : Nat := match textT.find? (fun q => Nat.beq q.1 a) with
  | some q => q.2.1
  | none => 0
def bfL (a : Nat) : List Int32 := match textT.find? (fun q => Nat.beq q.2.1 a) with
  | some q => q.2.2
  | none => []
def bfN (a : Nat) : Nat := (bfL a).length
def bfB (a j : Nat) : Int32 := (bfL a).getD j 0
/-- a constant's own fields: clause, code, level; its text -/
def o_gfw (k : Nat) (c : Ct) : Ct := fun ls st σ => match st with
  | .ref a :: r => cond (wB a) (c ls (.int (wfI k a) :: r) σ) False
  | _ => False
def o_gft (c : Ct) : Ct := fun ls st σ => match st with
  | .ref a :: r => cond (wB a) (c ls (.ref (wfS a) :: r) σ) False
  | _ => False
/-- a text's bytes, its coder -/
def o_gfv (c : Ct) : Ct := fun ls st σ => match st with
  | .ref a :: r => cond (tB a) (c ls (.ref (tfV a) :: r) σ) False
  | _ => False
def o_gfc (c : Ct) : Ct := fun ls st σ => match st with
  | .ref a :: r => cond (tB a) (c ls (.int 0 :: r) σ) False
  | _ => False
def ordL : List Int32 := [1, 1, 2, 6, 24, 120, 720]
def o_iald (cx : Bool) (c : Ct) : Ct := fun ls st σ => match st with
  | .int j :: .ref a :: r => cond (Nat.beq a 94001) (inb j 7 ∧ c ls (.int (ordL.getD (ix j) 0) :: r) σ) (match shp a with
    | (2, n) => cond (lvx cx σ a) (inb j n ∧ c ls (.int (gI σ a (ix j)) :: r) σ) False
    | (8, _) => inb j (ln σ) ∧ c ls (.int (gI σ a (ix j)) :: r) σ
    | _ => False)
  | _ => False
def o_zald (cx : Bool) (c : Ct) : Ct := fun ls st σ => match st with
  | .int j :: .ref a :: r => (match shp a with
    | (3, n) => cond (lvx cx σ a) (inb j n ∧ c ls (.int (gI σ a (ix j)) :: r) σ) False
    | _ => False)
  | _ => False
def o_bald (c : Ct) : Ct := fun ls st σ => match st with
  | .int j :: .ref a :: r => cond (bB a) (inb j (bfN a) ∧ c ls (.int (bfB a (ix j)) :: r) σ) False
  | _ => False
def o_lald (cx : Bool) (c : Ct) : Ct := fun ls st σ => match st with
  | .int j :: .ref a :: r => (match shp a with
    | (4, n) => cond (lvx cx σ a) (inb j n ∧ c ls (.long (gL σ a (ix j)) :: r) σ) False
    | _ => False)
  | _ => False
def o_aald (cx : Bool) (c : Ct) : Ct := fun ls st σ => match st with
  | .int j :: .ref a :: r => cond (Nat.beq a 94000) (inb j 42 ∧ c ls (.ref (90000 + ix j) :: r) σ) (match shp a with
    | (5, n) => cond (lvx cx σ a) (inb j n ∧ c ls (.ref (rfx cx σ a (ix j)) :: r) σ) False
    | (6, n) => cond (lvx cx σ a) (inb j n ∧ c ls (.ref (rfx cx σ a (ix j)) :: r) σ) False
    | (7, n) => cond (lvx cx σ a) (inb j n ∧ c ls (.ref (rfx cx σ a (ix j)) :: r) σ) False
    | _ => False)
  | _ => False
def o_iast (cx : Bool) (c : Ct) : Ct := fun ls st σ => match st with
  | .int x :: .int j :: .ref a :: r => (match shp a with
    | (2, n) => cond (lvx cx σ a) (inb j n ∧ c ls r (sI σ a (ix j) x)) False
    | _ => False)
  | _ => False
def o_zast (cx : Bool) (c : Ct) : Ct := fun ls st σ => match st with
  | .int x :: .int j :: .ref a :: r => (match shp a with
    | (3, n) => cond (lvx cx σ a) (cond (zB x) (inb j n ∧ c ls r (sI σ a (ix j) x)) False) False
    | _ => False)
  | _ => False
def o_last (cx : Bool) (c : Ct) : Ct := fun ls st σ => match st with
  | .long x :: .int j :: .ref a :: r => (match shp a with
    | (4, n) => cond (lvx cx σ a) (inb j n ∧ c ls r (sL σ a (ix j) x)) False
    | _ => False)
  | _ => False
def o_aast (cx : Bool) (c : Ct) : Ct := fun ls st σ => match st with
  | .ref x :: .int j :: .ref a :: r => (match shp a with
    | (5, n) => cond (lvx cx σ a && lvx cx σ x && isO 7 x && !cx) (inb j n ∧ c ls r (sR σ a (ix j) x)) False
    | (6, n) => cond (lvx cx σ a && wB x && (fixL.getD a []).isEmpty) (inb j n ∧ c ls r (sR σ a (ix j) x)) False
    | _ => False)
  | _ => False
def o_alen (cx : Bool) (c : Ct) : Ct := fun ls st σ => match st with
  | .ref a :: r => cond (bB a) (c ls (.int (Int32.ofNat (bfN a)) :: r) σ) (cond (Nat.beq a 94000) (c ls (.int 42 :: r) σ) (match shp a with
    | (0, _) => False
    | (1, _) => False
    | (8, _) => c ls (.int (Int32.ofNat (ln σ)) :: r) σ
    | (_, n) => cond (lvx cx σ a) (c ls (.int (Int32.ofNat n) :: r) σ) False))
  | _ => False
def o_new (cx : Bool) (cap ci : Nat) (c : Ct) : Ct := fun ls st σ => match cx with
  | true => False
  | false => cond (isO ci (nx σ) && Nat.blt (nx σ) cap) (c ls (.ref (nx σ) :: st) (sN σ)) False
def o_newa (cx : Bool) (cap kd : Nat) (c : Ct) : Ct := fun ls st σ => match cx, st with
  | false, .int n :: r => cond (Nat.beq (shp (nx σ)).1 kd && (Nat.blt (nx σ) cap && decide (n.toInt = (shp (nx σ)).2))) (c ls (.ref (nx σ) :: r) (sN σ)) False
  | _, _ => False
def o_mna (cx : Bool) (cap : Nat) (c : Ct) : Ct := fun ls st σ => match cx, st with
  | false, .int k :: .int n :: r => cond (Nat.beq (shp (nx σ)).1 7 && (Nat.ble (nx σ + 31) cap && (decide (n = 30) && (decide (k = 75) && ((shp (nx σ) == (7, 30)) && (List.range 30).all (fun j => shp (nx σ + 1 + j) == (2, 75))))))) (c ls (.ref (nx σ) :: r) (sM σ 30)) False
  | _, _ => False
def o_gst (a : Nat) (c : Ct) : Ct := fun ls st σ => c ls (.ref a :: st) σ
def o_gsi (v : Int32) (c : Ct) : Ct := fun ls st σ => c ls (.int v :: st) σ
def o_gso (c : Ct) : Ct := fun ls st σ => c ls (.retAddr 7 :: st) σ
def popN : Nat → List Value → List Value → Option (List Value × List Value)
  | 0, acc, st => some (acc, st)
  | n + 1, acc, v :: st => popN n (v :: acc) st
  | _ + 1, _, [] => none
def catS (st : List Value) : Nat := match st with
  | [] => 0
  | .long _ :: r => 2 + catS r
  | .double _ :: r => 2 + catS r
  | _ :: r => 1 + catS r
def pI (c : Ct) (ls r : List Value) : Po := fun v σ => match v with
  | some (.int x) => c ls (.int x :: r) σ
  | _ => False
def pL (c : Ct) (ls r : List Value) : Po := fun v σ => match v with
  | some (.long x) => c ls (.long x :: r) σ
  | _ => False
def pR (c : Ct) (ls r : List Value) : Po := fun v σ => match v with
  | some (.ref x) => c ls (.ref x :: r) σ
  | _ => False
def pV (c : Ct) (ls r : List Value) : Po := fun v σ => match v with
  | none => c ls r σ
  | _ => False
/-- room for what a callee makes -/
def cpx (cx : Bool) (cap : Nat) (σ : Sg) (y : Nat) : Bool := cx || Nat.ble (nx σ + nal false y) cap
/-- a call of a method of an object of class ci; of a constant; of a text; a static one; of a constructor -/
def o_iv (cx : Bool) (cap : Nat) (call : Cl) (ci y n : Nat) (pk : Ct → List Value → List Value → Po) (c : Ct) : Ct := fun ls st σ => match popN n [] st with
  | some (as, .ref a :: r) => cond (Nat.ble (catS r) 8 && (cpx cx cap σ y && (isO ci a && lvx cx σ a))) (call y (.ref a :: as) σ (pk c ls r)) False
  | _ => False
def o_ivw (cx : Bool) (call : Cl) (y n : Nat) (pk : Ct → List Value → List Value → Po) (c : Ct) : Ct := fun ls st σ => match popN n [] st with
  | some (as, .ref a :: r) => cond (Nat.ble (catS r) 8 && cx) (cond (wB a) (call y (.ref a :: as) σ (pk c ls r)) False) False
  | _ => False
def o_ivt (cx : Bool) (call : Cl) (y n : Nat) (pk : Ct → List Value → List Value → Po) (c : Ct) : Ct := fun ls st σ => match popN n [] st with
  | some (as, .ref a :: r) => cond (Nat.ble (catS r) 8 && cx) (cond (tB a) (call y (.ref a :: as) σ (pk c ls r)) False) False
  | _ => False
def o_isv (cx : Bool) (cap : Nat) (call : Cl) (y n : Nat) (pk : Ct → List Value → List Value → Po) (c : Ct) : Ct := fun ls st σ => match popN n [] st with
  | some (as, r) => cond (Nat.ble (catS r) 8 && cpx cx cap σ y) (call y as σ (pk c ls r)) False
  | _ => False
def o_ini (cx : Bool) (cap : Nat) (call : Cl) (y n : Nat) (c : Ct) : Ct := fun ls st σ => match popN n [] st with
  | some (as, .ref a :: r) => cond (Nat.ble (catS r) 8 && (cpx cx cap σ y && Nat.blt a 90000)) (call y (.ref a :: as) σ (pV c ls r)) False
  | _ => False
def o_obj (c : Ct) : Ct := fun ls st σ => match st with
  | .ref a :: r => cond (Nat.ble (catS r) 8 && Nat.blt a 90000) (c ls r σ) False
  | _ => False
def o_cpy (cx : Bool) (c : Ct) : Ct := fun ls st σ => match st with
  | .int n :: .int dp :: .ref b :: .int sp :: .ref a :: r => (match shp a, shp b with
    | (2, na), (2, nb) => cond (Nat.ble (catS r) 8 && (cx && (lvx cx σ a && lvx cx σ b))) ((0 ≤ sp.toInt ∧ 0 ≤ dp.toInt ∧ 0 ≤ n.toInt ∧ sp.toInt + n.toInt ≤ (na : Int) ∧ dp.toInt + n.toInt ≤ (nb : Int)) ∧ c ls r (cpI σ a (ix sp) b (ix dp) (ix n))) False
    | _, _ => False)
  | _ => False
def o_ir (Φ : Po) : Ct := fun _ st σ => match st with
  | [.int x] => Φ (some (.int x)) σ
  | _ => False
def o_zr (Φ : Po) : Ct := fun _ st σ => match st with
  | [.int x] => cond (zB x) (Φ (some (.int x)) σ) False
  | _ => False
def o_nr (ty : FieldType) (Φ : Po) : Ct := fun _ st σ => match st with
  | [.int x] => narrow ty (.int x) = .int x ∧ Φ (some (.int x)) σ
  | _ => False
def o_lr (Φ : Po) : Ct := fun _ st σ => match st with
  | [.long x] => Φ (some (.long x)) σ
  | _ => False
def o_ar (Φ : Po) : Ct := fun _ st σ => match st with
  | [.ref x] => Φ (some (.ref x)) σ
  | _ => False
def o_vr (Φ : Po) : Ct := fun _ st σ => match st with
  | [] => Φ none σ
  | _ => False
def o_no : Ct := fun _ _ _ => False
/-- the least relation that the blocks close -/
def Ev (F : (Nat → Ct) → Nat → Ct) (pc : Nat) (ls st : List Value) (σ : Sg) : Prop :=
  ∀ P : Nat → Ct, (∀ Q : Nat → Ct, (∀ pc ls st σ, Q pc ls st σ → P pc ls st σ) → ∀ pc ls st σ, F Q pc ls st σ → P pc ls st σ) → P pc ls st σ
theorem Ev.i {F : (Nat → Ct) → Nat → Ct} {pc : Nat} {ls st : List Value} {σ : Sg} (h : F (Ev F) pc ls st σ) : Ev F pc ls st σ :=
  fun P hP => hP (Ev F) (fun _ _ _ _ h => h P hP) pc ls st σ h
def enl : List Value → List Value
  | [] => []
  | .long x :: r => .long x :: .retAddr 0 :: enl r
  | .double x :: r => .double x :: .retAddr 0 :: enl r
  | v :: r => v :: enl r
def enL (nL : Nat) (as : List Value) : List Value := enl as ++ List.replicate (nL - (enl as).length) (.retAddr 0)
