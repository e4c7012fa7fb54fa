theorem ws_gw (ws : List Cond) (ps : List Nat) (hp : ws = ps.filterMap (fun i => lw_tbl[i]?)) (h : ws.all goodWord = true) : ∀ w ∈ ws, w ∈ gw := by
  intro w hw
  have h1 := List.all_eq_true.mp h w hw
  rw [hp] at hw
  obtain ⟨i, -, hi⟩ := List.mem_filterMap.mp hw
  exact gw_at i hi h1
def chkZ (q : Int32 × Sto) : Option (Int32 × Sto) := if q.1 = 0 ∨ q.1 = 1 then some q else none
theorem chkZ_ok {o : Option (Int32 × Sto)} {z : Int32 × Sto} (h : o.bind chkZ = some z) : (z.1 = 0 ∨ z.1 = 1) ∧ o = some z := by
  obtain ⟨a, ha, hb⟩ := bnd h
  obtain ⟨hc, hd⟩ := gd hb
  cases hd
  exact ⟨hc, ha⟩
def chkC (q : Int32 × Sto) : Option (Int32 × Sto) := if narrow .char (.int q.1) = .int q.1 then some q else none
theorem chkC_ok {o : Option (Int32 × Sto)} {z : Int32 × Sto} (h : o.bind chkC = some z) : narrow .char (.int z.1) = .int z.1 ∧ o = some z := by
  obtain ⟨a, ha, hb⟩ := bnd h
  obtain ⟨hc, hd⟩ := gd hb
  cases hd
  exact ⟨hc, ha⟩
def chkB (q : Int32 × Sto) : Option (Int32 × Sto) := if narrow .byte (.int q.1) = .int q.1 then some q else none
theorem chkB_ok {o : Option (Int32 × Sto)} {z : Int32 × Sto} (h : o.bind chkB = some z) : narrow .byte (.int z.1) = .int z.1 ∧ o = some z := by
  obtain ⟨a, ha, hb⟩ := bnd h
  obtain ⟨hc, hd⟩ := gd hb
  cases hd
  exact ⟨hc, ha⟩
/-! facts of the tables, by their places -/
theorem inX0g : ∀ w ∈ u_ws RX0 TX0 9, w ∈ gw := ws_gw _ [115, 117, 119, 121, 123, 125, 127, 129, 131] (by decide +kernel) (by decide +kernel)
theorem inX1g : ∀ w ∈ u_ws RX1 TX1 3, w ∈ gw := ws_gw _ [159, 161, 163] (by decide +kernel) (by decide +kernel)
theorem inX2g : ∀ w ∈ u_ws RX2 TX2 2, w ∈ gw := ws_gw _ [144, 146] (by decide +kernel) (by decide +kernel)
theorem inX3g : ∀ w ∈ u_ws RX3 TX3 11, w ∈ gw := ws_gw _ [177, 179, 181, 183, 185, 187, 189, 191, 193, 195, 197] (by decide +kernel) (by decide +kernel)
theorem inX4g : ∀ w ∈ u_ws RX4 TX4 26, w ∈ gw := ws_gw _ [706, 708, 710, 712, 714, 716, 718, 720, 722, 724, 726, 728, 730, 732, 734, 736, 738, 740, 742, 744, 746, 748, 750, 752, 754, 756] (by decide +kernel) (by decide +kernel)
theorem ly0 : lay[0]? = some (.inr (3, [some 1, some 3, some 5, some 7, some 9, some 11, some 14, some 15, some 16, none, none])) := rfl
theorem ly2 : lay[2]? = some (.inl 24) := rfl
theorem ly4 : lay[4]? = some (.inl 24) := rfl
theorem ly6 : lay[6]? = some (.inl 24) := rfl
theorem ly8 : lay[8]? = some (.inl 24) := rfl
theorem ly9 : lay[9]? = some (.inr (2, [some 10, none])) := rfl
theorem ly10 : lay[10]? = some (.inl 80) := rfl
theorem ly11 : lay[11]? = some (.inr (1, [some 12, some 13, none])) := rfl
theorem ly12 : lay[12]? = some (.inl 8) := rfl
theorem ly13 : lay[13]? = some (.inl 8) := rfl
theorem ly14 : lay[14]? = some (.inl 20) := rfl
theorem ly15 : lay[15]? = some (.inl 9) := rfl
theorem ly16 : lay[16]? = some (.inl 7) := rfl
theorem ly17 : lay[17]? = some (.inr (4, [some 18, some 19, some 20, none, none, none, none, some 21, some 22, some 23, some 24, none, none, none, some 25, none, none, none, none, none, some 26, some 27, some 28, none, some 29, none])) := rfl
theorem ly18 : lay[18]? = some (.inl 7) := rfl
theorem ly19 : lay[19]? = some (.inl 24) := rfl
theorem ly20 : lay[20]? = some (.inl 4) := rfl
theorem ly21 : lay[21]? = some (.inl 80) := rfl
theorem ly22 : lay[22]? = some (.inl 40) := rfl
theorem ly23 : lay[23]? = some (.inl 40) := rfl
theorem ly24 : lay[24]? = some (.inl 120) := rfl
theorem ly25 : lay[25]? = some (.inl 105) := rfl
theorem ly26 : lay[26]? = some (.inl 8) := rfl
theorem ly27 : lay[27]? = some (.inl 8) := rfl
theorem ly28 : lay[28]? = some (.inl 10) := rfl
theorem ly29 : lay[29]? = some (.inl 20) := rfl
theorem flX3_46 : Cond.fieldLink RX3 46 "HigherMoreLeft" "refused" "[I" ∈ gw := gw_at 174 (by decide +kernel) rfl
theorem iniX3 : Cond.initialized RX3 ∈ gw := gw_at 64 (by decide +kernel) rfl
theorem cdX3_refuse : Cond.code yX3_refuse cX3_refuse 3 (some .int) ∈ gw := gw_at 207 (by decide +kernel) rfl
theorem ldX3_refuse : LkD yX3_refuse cX3_refuse 3 (some .int) 1 := ⟨iniX3, cdX3_refuse, by decide +kernel, by decide +kernel, by decide +kernel⟩
theorem mlX3_57 : Cond.methodLink RX3 57 yX3_refuse ∈ gw := gw_at 204 (by decide +kernel) rfl
theorem imX3_refuse : Cond.instanceMethod yX3_refuse ∈ gw := gw_at 206 (by decide +kernel) rfl
theorem seX3_refuse : Cond.selects (yX3_refuse).cls yX3_refuse yX3_refuse ∈ gw := gw_at 0 (by decide +kernel) rfl
theorem lkX3_57 : LkV RX3 57 yX3_refuse cX3_refuse 3 (some .int) 1 := ⟨mlX3_57, imX3_refuse, seX3_refuse, ldX3_refuse⟩
theorem flX3_28 : Cond.fieldLink RX3 28 "HigherMoreLeft" "text" "LHigherMoreLeft$Text;" ∈ gw := gw_at 170 (by decide +kernel) rfl
theorem flX3_61 : Cond.fieldLinkNest RX3 61 "HigherMoreLeft$Text" "many" "I" "HigherMoreLeft" ∈ lw_tbl := List.mem_of_getElem? (i := 143) (by decide +kernel)
theorem flX2_15 : Cond.fieldLink RX2 15 "HigherMoreLeft$Text" "many" "I" ∈ gw := gw_at 142 (by decide +kernel) rfl
theorem flX2_9 : Cond.fieldLink RX2 9 "HigherMoreLeft$Text" "letters" "[I" ∈ gw := gw_at 141 (by decide +kernel) rfl
theorem iniX2 : Cond.initialized RX2 ∈ gw := gw_at 66 (by decide +kernel) rfl
theorem cdX2_add : Cond.code yX2_add cX2_add 2 (some .int) ∈ gw := gw_at 211 (by decide +kernel) rfl
theorem ldX2_add : LkD yX2_add cX2_add 2 (some .int) 1 := ⟨iniX2, cdX2_add, by decide +kernel, by decide +kernel, by decide +kernel⟩
theorem mlX3_64 : Cond.methodLinkNest RX3 64 yX2_add "HigherMoreLeft" ∈ lw_tbl := List.mem_of_getElem? (i := 208) (by decide +kernel)
theorem imX2_add : Cond.instanceMethod yX2_add ∈ gw := gw_at 210 (by decide +kernel) rfl
theorem seX2_add : Cond.selects (yX2_add).cls yX2_add yX2_add ∈ gw := gw_at 1 (by decide +kernel) rfl
theorem lkX3_64 : LkVN RX3 64 yX2_add "HigherMoreLeft" cX2_add 2 (some .int) 1 := ⟨mlX3_64, imX2_add, seX2_add, ldX2_add⟩
theorem flX3_19 : Cond.fieldLink RX3 19 "HigherMoreLeft" "mind" "LHigherMoreLeft$Back;" ∈ gw := gw_at 168 (by decide +kernel) rfl
theorem flX3_10 : Cond.fieldLink RX3 10 "HigherMoreLeft" "now" "LHigherMoreLeft$Back;" ∈ gw := gw_at 166 (by decide +kernel) rfl
theorem flX0_9 : Cond.fieldLink RX0 9 "HigherMoreLeft$Back" "sores" "[I" ∈ gw := gw_at 91 (by decide +kernel) rfl
theorem mlX0_40 : Cond.methodLink RX0 40 arraycopyName ∈ gw := gw_at 220 (by decide +kernel) rfl
theorem natAC : Cond.native arraycopyName ∈ gw := gw_at 222 (by decide +kernel) rfl
theorem smAC : Cond.static arraycopyName ∈ gw := gw_at 221 (by decide +kernel) rfl
theorem iniSys : Cond.initialized "java/lang/System" ∈ gw := gw_at 69 (by decide +kernel) rfl
theorem flX0_15 : Cond.fieldLink RX0 15 "HigherMoreLeft$Back" "kind" "I" ∈ gw := gw_at 92 (by decide +kernel) rfl
theorem flX0_19 : Cond.fieldLink RX0 19 "HigherMoreLeft$Back" "place" "I" ∈ gw := gw_at 95 (by decide +kernel) rfl
theorem flX0_22 : Cond.fieldLink RX0 22 "HigherMoreLeft$Back" "hand" "I" ∈ gw := gw_at 98 (by decide +kernel) rfl
theorem flX0_25 : Cond.fieldLink RX0 25 "HigherMoreLeft$Back" "time" "I" ∈ gw := gw_at 100 (by decide +kernel) rfl
theorem flX0_28 : Cond.fieldLink RX0 28 "HigherMoreLeft$Back" "left" "I" ∈ gw := gw_at 103 (by decide +kernel) rfl
theorem flX0_31 : Cond.fieldLink RX0 31 "HigherMoreLeft$Back" "bit" "I" ∈ gw := gw_at 106 (by decide +kernel) rfl
theorem flX0_34 : Cond.fieldLink RX0 34 "HigherMoreLeft$Back" "lot" "I" ∈ gw := gw_at 109 (by decide +kernel) rfl
theorem flX0_37 : Cond.fieldLink RX0 37 "HigherMoreLeft$Back" "seam" "I" ∈ gw := gw_at 112 (by decide +kernel) rfl
theorem iniX0 : Cond.initialized RX0 ∈ gw := gw_at 65 (by decide +kernel) rfl
theorem cdX0_take : Cond.code yX0_take cX0_take 2 none ∈ gw := gw_at 219 (by decide +kernel) rfl
theorem ldX0_take : LkD yX0_take cX0_take 2 none 1 := ⟨iniX0, cdX0_take, by decide +kernel, by decide +kernel, by decide +kernel⟩
theorem mlX3_67 : Cond.methodLinkNest RX3 67 yX0_take "HigherMoreLeft" ∈ lw_tbl := List.mem_of_getElem? (i := 216) (by decide +kernel)
theorem imX0_take : Cond.instanceMethod yX0_take ∈ gw := gw_at 218 (by decide +kernel) rfl
theorem seX0_take : Cond.selects (yX0_take).cls yX0_take yX0_take ∈ gw := gw_at 2 (by decide +kernel) rfl
theorem lkX3_67 : LkVN RX3 67 yX0_take "HigherMoreLeft" cX0_take 2 none 1 := ⟨mlX3_67, imX0_take, seX0_take, ldX0_take⟩
theorem cdX2_letterAt : Cond.code yX2_letterAt cX2_letterAt 2 (some .int) ∈ gw := gw_at 234 (by decide +kernel) rfl
theorem ldX2_letterAt : LkD yX2_letterAt cX2_letterAt 2 (some .int) 1 := ⟨iniX2, cdX2_letterAt, by decide +kernel, by decide +kernel, by decide +kernel⟩
theorem mlX2_27 : Cond.methodLink RX2 27 yX2_letterAt ∈ gw := gw_at 231 (by decide +kernel) rfl
theorem imX2_letterAt : Cond.instanceMethod yX2_letterAt ∈ gw := gw_at 233 (by decide +kernel) rfl
theorem seX2_letterAt : Cond.selects (yX2_letterAt).cls yX2_letterAt yX2_letterAt ∈ gw := gw_at 5 (by decide +kernel) rfl
theorem lkX2_27 : LkV RX2 27 yX2_letterAt cX2_letterAt 2 (some .int) 1 := ⟨mlX2_27, imX2_letterAt, seX2_letterAt, ldX2_letterAt⟩
theorem cdX2_shapeOf : Cond.code yX2_shapeOf cX2_shapeOf 1 (some (.object "java/lang/String")) ∈ gw := gw_at 237 (by decide +kernel) rfl
theorem ldX2_shapeOf : LkD yX2_shapeOf cX2_shapeOf 1 (some (.object "java/lang/String")) 1 := ⟨iniX2, cdX2_shapeOf, by decide +kernel, by decide +kernel, by decide +kernel⟩
theorem mlX2_31 : Cond.methodLink RX2 31 yX2_shapeOf ∈ gw := gw_at 235 (by decide +kernel) rfl
theorem smX2_shapeOf : Cond.static yX2_shapeOf ∈ gw := gw_at 236 (by decide +kernel) rfl
theorem lkX2_31 : LkS RX2 31 yX2_shapeOf cX2_shapeOf 1 (some (.object "java/lang/String")) 1 := ⟨mlX2_31, smX2_shapeOf, ldX2_shapeOf⟩
theorem flJ0_9 : Cond.fieldLink RJ0 9 "java/lang/String" "value" "[B" ∈ gw := gw_at 1068 (by decide +kernel) rfl
theorem iniJ0 : Cond.initialized RJ0 ∈ gw := gw_at 70 (by decide +kernel) rfl
theorem cdJ0_isEmpty_aae02 : Cond.code yJ0_isEmpty_aae02 cJ0_isEmpty_aae02 1 (some .boolean) ∈ gw := gw_at 246 (by decide +kernel) rfl
theorem ldJ0_isEmpty_aae02 : LkD yJ0_isEmpty_aae02 cJ0_isEmpty_aae02 1 (some .boolean) 0 := ⟨iniJ0, cdJ0_isEmpty_aae02, by decide +kernel, by decide +kernel, by decide +kernel⟩
theorem mlX2_40 : Cond.methodLink RX2 40 yJ0_isEmpty_aae02 ∈ gw := gw_at 243 (by decide +kernel) rfl
theorem imJ0_isEmpty_aae02 : Cond.instanceMethod yJ0_isEmpty_aae02 ∈ gw := gw_at 244 (by decide +kernel) rfl
theorem seJ0_isEmpty_aae02 : Cond.selects (yJ0_isEmpty_aae02).cls yJ0_isEmpty_aae02 yJ0_isEmpty_aae02 ∈ gw := gw_at 245 (by decide +kernel) rfl
theorem lkX2_40 : LkV RX2 40 yJ0_isEmpty_aae02 cJ0_isEmpty_aae02 1 (some .boolean) 0 := ⟨mlX2_40, imJ0_isEmpty_aae02, seJ0_isEmpty_aae02, ldJ0_isEmpty_aae02⟩
theorem flJ0_38 : Cond.fieldLink RJ0 38 "java/lang/String" "COMPACT_STRINGS" "Z" ∈ gw := gw_at 255 (by decide +kernel) rfl
theorem flJ0_15 : Cond.fieldLink RJ0 15 "java/lang/String" "coder" "B" ∈ gw := gw_at 1069 (by decide +kernel) rfl
theorem cdJ0_coder_7d493 : Cond.code yJ0_coder_7d493 cJ0_coder_7d493 1 (some .byte) ∈ gw := gw_at 254 (by decide +kernel) rfl
theorem ldJ0_coder_7d493 : LkD yJ0_coder_7d493 cJ0_coder_7d493 1 (some .byte) 0 := ⟨iniJ0, cdJ0_coder_7d493, by decide +kernel, by decide +kernel, by decide +kernel⟩
theorem mlJ0_335 : Cond.methodLink RJ0 335 yJ0_coder_7d493 ∈ gw := gw_at 251 (by decide +kernel) rfl
theorem imJ0_coder_7d493 : Cond.instanceMethod yJ0_coder_7d493 ∈ gw := gw_at 252 (by decide +kernel) rfl
theorem seJ0_coder_7d493 : Cond.selects (yJ0_coder_7d493).cls yJ0_coder_7d493 yJ0_coder_7d493 ∈ gw := gw_at 253 (by decide +kernel) rfl
theorem lkJ0_335 : LkV RJ0 335 yJ0_coder_7d493 cJ0_coder_7d493 1 (some .byte) 0 := ⟨mlJ0_335, imJ0_coder_7d493, seJ0_coder_7d493, ldJ0_coder_7d493⟩
theorem cdJ0_length_8abf5 : Cond.code yJ0_length_8abf5 cJ0_length_8abf5 1 (some .int) ∈ gw := gw_at 250 (by decide +kernel) rfl
theorem ldJ0_length_8abf5 : LkD yJ0_length_8abf5 cJ0_length_8abf5 1 (some .int) 0 := ⟨iniJ0, cdJ0_length_8abf5, by decide +kernel, by decide +kernel, by decide +kernel⟩
theorem mlX2_35 : Cond.methodLink RX2 35 yJ0_length_8abf5 ∈ gw := gw_at 247 (by decide +kernel) rfl
theorem imJ0_length_8abf5 : Cond.instanceMethod yJ0_length_8abf5 ∈ gw := gw_at 248 (by decide +kernel) rfl
theorem seJ0_length_8abf5 : Cond.selects (yJ0_length_8abf5).cls yJ0_length_8abf5 yJ0_length_8abf5 ∈ gw := gw_at 249 (by decide +kernel) rfl
theorem lkX2_35 : LkV RX2 35 yJ0_length_8abf5 cJ0_length_8abf5 1 (some .int) 0 := ⟨mlX2_35, imJ0_length_8abf5, seJ0_length_8abf5, ldJ0_length_8abf5⟩
theorem cdJ0_isLatin1_aae02 : Cond.code yJ0_isLatin1_aae02 cJ0_isLatin1_aae02 1 (some .boolean) ∈ gw := gw_at 264 (by decide +kernel) rfl
theorem ldJ0_isLatin1_aae02 : LkD yJ0_isLatin1_aae02 cJ0_isLatin1_aae02 1 (some .boolean) 0 := ⟨iniJ0, cdJ0_isLatin1_aae02, by decide +kernel, by decide +kernel, by decide +kernel⟩
theorem mlJ0_492 : Cond.methodLink RJ0 492 yJ0_isLatin1_aae02 ∈ gw := gw_at 261 (by decide +kernel) rfl
theorem imJ0_isLatin1_aae02 : Cond.instanceMethod yJ0_isLatin1_aae02 ∈ gw := gw_at 262 (by decide +kernel) rfl
theorem seJ0_isLatin1_aae02 : Cond.selects (yJ0_isLatin1_aae02).cls yJ0_isLatin1_aae02 yJ0_isLatin1_aae02 ∈ gw := gw_at 263 (by decide +kernel) rfl
theorem lkJ0_492 : LkV RJ0 492 yJ0_isLatin1_aae02 cJ0_isLatin1_aae02 1 (some .boolean) 0 := ⟨mlJ0_492, imJ0_isLatin1_aae02, seJ0_isLatin1_aae02, ldJ0_isLatin1_aae02⟩
theorem flJ0_1053 : Cond.fieldLink RJ0 1053 "jdk/internal/util/Preconditions" "SIOOBE_FORMATTER" "Ljava/util/function/BiFunction;" ∈ gw := gw_at 271 (by decide +kernel) rfl
theorem iniJ3 : Cond.initialized RJ3 ∈ gw := gw_at 72 (by decide +kernel) rfl
theorem cdJ3_checkIndex_8e157 : Cond.code yJ3_checkIndex_8e157 cJ3_checkIndex_8e157 3 (some .int) ∈ gw := gw_at 275 (by decide +kernel) rfl
theorem ldJ3_checkIndex_8e157 : LkD yJ3_checkIndex_8e157 cJ3_checkIndex_8e157 3 (some .int) 3 := ⟨iniJ3, cdJ3_checkIndex_8e157, by decide +kernel, by decide +kernel, by decide +kernel⟩
theorem mlJ0_1059 : Cond.methodLink RJ0 1059 yJ3_checkIndex_8e157 ∈ gw := gw_at 273 (by decide +kernel) rfl
theorem smJ3_checkIndex_8e157 : Cond.static yJ3_checkIndex_8e157 ∈ gw := gw_at 274 (by decide +kernel) rfl
theorem lkJ0_1059 : LkS RJ0 1059 yJ3_checkIndex_8e157 cJ3_checkIndex_8e157 3 (some .int) 3 := ⟨mlJ0_1059, smJ3_checkIndex_8e157, ldJ3_checkIndex_8e157⟩
theorem cdJ0_checkIndex_df160 : Cond.code yJ0_checkIndex_df160 cJ0_checkIndex_df160 2 none ∈ gw := gw_at 270 (by decide +kernel) rfl
theorem ldJ0_checkIndex_df160 : LkD yJ0_checkIndex_df160 cJ0_checkIndex_df160 2 none 2 := ⟨iniJ0, cdJ0_checkIndex_df160, by decide +kernel, by decide +kernel, by decide +kernel⟩
theorem mlJ1_9 : Cond.methodLink RJ1 9 yJ0_checkIndex_df160 ∈ gw := gw_at 268 (by decide +kernel) rfl
theorem smJ0_checkIndex_df160 : Cond.static yJ0_checkIndex_df160 ∈ gw := gw_at 269 (by decide +kernel) rfl
theorem lkJ1_9 : LkS RJ1 9 yJ0_checkIndex_df160 cJ0_checkIndex_df160 2 none 2 := ⟨mlJ1_9, smJ0_checkIndex_df160, ldJ0_checkIndex_df160⟩
theorem iniJ1 : Cond.initialized RJ1 ∈ gw := gw_at 71 (by decide +kernel) rfl
theorem cdJ1_charAt_3b067 : Cond.code yJ1_charAt_3b067 cJ1_charAt_3b067 2 (some .char) ∈ gw := gw_at 267 (by decide +kernel) rfl
theorem ldJ1_charAt_3b067 : LkD yJ1_charAt_3b067 cJ1_charAt_3b067 2 (some .char) 2 := ⟨iniJ1, cdJ1_charAt_3b067, by decide +kernel, by decide +kernel, by decide +kernel⟩
theorem mlJ0_495 : Cond.methodLink RJ0 495 yJ1_charAt_3b067 ∈ gw := gw_at 265 (by decide +kernel) rfl
theorem smJ1_charAt_3b067 : Cond.static yJ1_charAt_3b067 ∈ gw := gw_at 266 (by decide +kernel) rfl
theorem lkJ0_495 : LkS RJ0 495 yJ1_charAt_3b067 cJ1_charAt_3b067 2 (some .char) 2 := ⟨mlJ0_495, smJ1_charAt_3b067, ldJ1_charAt_3b067⟩
theorem cdJ0_charAt_5068e : Cond.code yJ0_charAt_5068e cJ0_charAt_5068e 2 (some .char) ∈ gw := gw_at 260 (by decide +kernel) rfl
theorem ldJ0_charAt_5068e : LkD yJ0_charAt_5068e cJ0_charAt_5068e 2 (some .char) 1 := ⟨iniJ0, cdJ0_charAt_5068e, by decide +kernel, by decide +kernel, by decide +kernel⟩
theorem mlX2_44 : Cond.methodLink RX2 44 yJ0_charAt_5068e ∈ gw := gw_at 257 (by decide +kernel) rfl
theorem imJ0_charAt_5068e : Cond.instanceMethod yJ0_charAt_5068e ∈ gw := gw_at 258 (by decide +kernel) rfl
theorem seJ0_charAt_5068e : Cond.selects (yJ0_charAt_5068e).cls yJ0_charAt_5068e yJ0_charAt_5068e ∈ gw := gw_at 259 (by decide +kernel) rfl
theorem lkX2_44 : LkV RX2 44 yJ0_charAt_5068e cJ0_charAt_5068e 2 (some .char) 1 := ⟨mlX2_44, imJ0_charAt_5068e, seJ0_charAt_5068e, ldJ0_charAt_5068e⟩
theorem mlJ0_505 : Cond.methodLink RJ0 505 yJ0_length_8abf5 ∈ gw := gw_at 307 (by decide +kernel) rfl
theorem lkJ0_505 : LkV RJ0 505 yJ0_length_8abf5 cJ0_length_8abf5 1 (some .int) 0 := ⟨mlJ0_505, imJ0_length_8abf5, seJ0_length_8abf5, ldJ0_length_8abf5⟩
theorem cdJ1_canEncode_9a6ad : Cond.code yJ1_canEncode_9a6ad cJ1_canEncode_9a6ad 1 (some .boolean) ∈ gw := gw_at 313 (by decide +kernel) rfl
theorem ldJ1_canEncode_9a6ad : LkD yJ1_canEncode_9a6ad cJ1_canEncode_9a6ad 1 (some .boolean) 1 := ⟨iniJ1, cdJ1_canEncode_9a6ad, by decide +kernel, by decide +kernel, by decide +kernel⟩
theorem mlJ1_88 : Cond.methodLink RJ1 88 yJ1_canEncode_9a6ad ∈ gw := gw_at 311 (by decide +kernel) rfl
theorem smJ1_canEncode_9a6ad : Cond.static yJ1_canEncode_9a6ad ∈ gw := gw_at 312 (by decide +kernel) rfl
theorem lkJ1_88 : LkS RJ1 88 yJ1_canEncode_9a6ad cJ1_canEncode_9a6ad 1 (some .boolean) 1 := ⟨mlJ1_88, smJ1_canEncode_9a6ad, ldJ1_canEncode_9a6ad⟩
theorem mlJ1_92 : Cond.methodLink RJ1 92 Lib.Math.max.name ∈ gw := gw_at 314 (by decide +kernel) rfl
theorem smMmax : Cond.static Lib.Math.max.name ∈ gw := gw_at 315 (by decide +kernel) rfl
theorem iniMath : Cond.initialized "java/lang/Math" ∈ gw := gw_at 74 (by decide +kernel) rfl
theorem cdMmax : Cond.code Lib.Math.max.name Lib.Math.max.code 2 (some .int) ∈ gw := gw_at 316 (by decide +kernel) rfl
theorem mlJ1_38 : Cond.methodLink RJ1 38 Lib.Math.min.name ∈ gw := gw_at 317 (by decide +kernel) rfl
theorem smMmin : Cond.static Lib.Math.min.name ∈ gw := gw_at 318 (by decide +kernel) rfl
theorem cdMmin : Cond.code Lib.Math.min.name Lib.Math.min.code 2 (some .int) ∈ gw := gw_at 319 (by decide +kernel) rfl
theorem cdJ1_indexOfChar_4cfef : Cond.code yJ1_indexOfChar_4cfef cJ1_indexOfChar_4cfef 6 (some .int) ∈ gw := gw_at 322 (by decide +kernel) rfl
theorem ldJ1_indexOfChar_4cfef : LkD yJ1_indexOfChar_4cfef cJ1_indexOfChar_4cfef 6 (some .int) 4 := ⟨iniJ1, cdJ1_indexOfChar_4cfef, by decide +kernel, by decide +kernel, by decide +kernel⟩
theorem mlJ1_95 : Cond.methodLink RJ1 95 yJ1_indexOfChar_4cfef ∈ gw := gw_at 320 (by decide +kernel) rfl
theorem smJ1_indexOfChar_4cfef : Cond.static yJ1_indexOfChar_4cfef ∈ gw := gw_at 321 (by decide +kernel) rfl
theorem lkJ1_95 : LkS RJ1 95 yJ1_indexOfChar_4cfef cJ1_indexOfChar_4cfef 6 (some .int) 4 := ⟨mlJ1_95, smJ1_indexOfChar_4cfef, ldJ1_indexOfChar_4cfef⟩
theorem cdJ1_indexOf_4cfef : Cond.code yJ1_indexOf_4cfef cJ1_indexOf_4cfef 4 (some .int) ∈ gw := gw_at 310 (by decide +kernel) rfl
theorem ldJ1_indexOf_4cfef : LkD yJ1_indexOf_4cfef cJ1_indexOf_4cfef 4 (some .int) 4 := ⟨iniJ1, cdJ1_indexOf_4cfef, by decide +kernel, by decide +kernel, by decide +kernel⟩
theorem mlJ0_637 : Cond.methodLink RJ0 637 yJ1_indexOf_4cfef ∈ gw := gw_at 308 (by decide +kernel) rfl
theorem smJ1_indexOf_4cfef : Cond.static yJ1_indexOf_4cfef ∈ gw := gw_at 309 (by decide +kernel) rfl
theorem lkJ0_637 : LkS RJ0 637 yJ1_indexOf_4cfef cJ1_indexOf_4cfef 4 (some .int) 4 := ⟨mlJ0_637, smJ1_indexOf_4cfef, ldJ1_indexOf_4cfef⟩
theorem cdJ0_indexOf_7cf53 : Cond.code yJ0_indexOf_7cf53 cJ0_indexOf_7cf53 3 (some .int) ∈ gw := gw_at 306 (by decide +kernel) rfl
theorem ldJ0_indexOf_7cf53 : LkD yJ0_indexOf_7cf53 cJ0_indexOf_7cf53 3 (some .int) 2 := ⟨iniJ0, cdJ0_indexOf_7cf53, by decide +kernel, by decide +kernel, by decide +kernel⟩
theorem mlJ0_633 : Cond.methodLink RJ0 633 yJ0_indexOf_7cf53 ∈ gw := gw_at 303 (by decide +kernel) rfl
theorem imJ0_indexOf_7cf53 : Cond.instanceMethod yJ0_indexOf_7cf53 ∈ gw := gw_at 304 (by decide +kernel) rfl
theorem seJ0_indexOf_7cf53 : Cond.selects (yJ0_indexOf_7cf53).cls yJ0_indexOf_7cf53 yJ0_indexOf_7cf53 ∈ gw := gw_at 305 (by decide +kernel) rfl
theorem lkJ0_633 : LkV RJ0 633 yJ0_indexOf_7cf53 cJ0_indexOf_7cf53 3 (some .int) 2 := ⟨mlJ0_633, imJ0_indexOf_7cf53, seJ0_indexOf_7cf53, ldJ0_indexOf_7cf53⟩
theorem cdJ0_indexOf_0f7a4 : Cond.code yJ0_indexOf_0f7a4 cJ0_indexOf_0f7a4 2 (some .int) ∈ gw := gw_at 302 (by decide +kernel) rfl
theorem ldJ0_indexOf_0f7a4 : LkD yJ0_indexOf_0f7a4 cJ0_indexOf_0f7a4 2 (some .int) 1 := ⟨iniJ0, cdJ0_indexOf_0f7a4, by decide +kernel, by decide +kernel, by decide +kernel⟩
theorem mlX2_64 : Cond.methodLink RX2 64 yJ0_indexOf_0f7a4 ∈ gw := gw_at 299 (by decide +kernel) rfl
theorem imJ0_indexOf_0f7a4 : Cond.instanceMethod yJ0_indexOf_0f7a4 ∈ gw := gw_at 300 (by decide +kernel) rfl
theorem seJ0_indexOf_0f7a4 : Cond.selects (yJ0_indexOf_0f7a4).cls yJ0_indexOf_0f7a4 yJ0_indexOf_0f7a4 ∈ gw := gw_at 301 (by decide +kernel) rfl
theorem lkX2_64 : LkV RX2 64 yJ0_indexOf_0f7a4 cJ0_indexOf_0f7a4 2 (some .int) 1 := ⟨mlX2_64, imJ0_indexOf_0f7a4, seJ0_indexOf_0f7a4, ldJ0_indexOf_0f7a4⟩
theorem cdX2_fits : Cond.code yX2_fits cX2_fits 2 (some .boolean) ∈ gw := gw_at 297 (by decide +kernel) rfl
theorem ldX2_fits : LkD yX2_fits cX2_fits 2 (some .boolean) 2 := ⟨iniX2, cdX2_fits, by decide +kernel, by decide +kernel, by decide +kernel⟩
theorem mlX2_48 : Cond.methodLink RX2 48 yX2_fits ∈ gw := gw_at 295 (by decide +kernel) rfl
theorem smX2_fits : Cond.static yX2_fits ∈ gw := gw_at 296 (by decide +kernel) rfl
theorem lkX2_48 : LkS RX2 48 yX2_fits cX2_fits 2 (some .boolean) 2 := ⟨mlX2_48, smX2_fits, ldX2_fits⟩
theorem cdX2_firstWrong : Cond.code yX2_firstWrong cX2_firstWrong 5 (some .int) ∈ gw := gw_at 230 (by decide +kernel) rfl
theorem ldX2_firstWrong : LkD yX2_firstWrong cX2_firstWrong 5 (some .int) 0 := ⟨iniX2, cdX2_firstWrong, by decide +kernel, by decide +kernel, by decide +kernel⟩
theorem mlX2_19 : Cond.methodLink RX2 19 yX2_firstWrong ∈ gw := gw_at 227 (by decide +kernel) rfl
theorem imX2_firstWrong : Cond.instanceMethod yX2_firstWrong ∈ gw := gw_at 229 (by decide +kernel) rfl
theorem seX2_firstWrong : Cond.selects (yX2_firstWrong).cls yX2_firstWrong yX2_firstWrong ∈ gw := gw_at 4 (by decide +kernel) rfl
theorem lkX2_19 : LkV RX2 19 yX2_firstWrong cX2_firstWrong 5 (some .int) 0 := ⟨mlX2_19, imX2_firstWrong, seX2_firstWrong, ldX2_firstWrong⟩
theorem cdX2_digitAt : Cond.code yX2_digitAt cX2_digitAt 2 (some .int) ∈ gw := gw_at 369 (by decide +kernel) rfl
theorem ldX2_digitAt : LkD yX2_digitAt cX2_digitAt 2 (some .int) 1 := ⟨iniX2, cdX2_digitAt, by decide +kernel, by decide +kernel, by decide +kernel⟩
theorem mlX2_67 : Cond.methodLink RX2 67 yX2_digitAt ∈ gw := gw_at 366 (by decide +kernel) rfl
theorem imX2_digitAt : Cond.instanceMethod yX2_digitAt ∈ gw := gw_at 368 (by decide +kernel) rfl
theorem seX2_digitAt : Cond.selects (yX2_digitAt).cls yX2_digitAt yX2_digitAt ∈ gw := gw_at 8 (by decide +kernel) rfl
theorem lkX2_67 : LkV RX2 67 yX2_digitAt cX2_digitAt 2 (some .int) 1 := ⟨mlX2_67, imX2_digitAt, seX2_digitAt, ldX2_digitAt⟩
theorem cdX3_within : Cond.code yX3_within cX3_within 3 (some .boolean) ∈ gw := gw_at 384 (by decide +kernel) rfl
theorem ldX3_within : LkD yX3_within cX3_within 3 (some .boolean) 3 := ⟨iniX3, cdX3_within, by decide +kernel, by decide +kernel, by decide +kernel⟩
theorem mlX2_105 : Cond.methodLinkNest RX2 105 yX3_within "HigherMoreLeft" ∈ lw_tbl := List.mem_of_getElem? (i := 382) (by decide +kernel)
theorem smX3_within : Cond.static yX3_within ∈ gw := gw_at 383 (by decide +kernel) rfl
theorem lkX2_105 : LkSN RX2 105 yX3_within "HigherMoreLeft" cX3_within 3 (some .boolean) 3 := ⟨mlX2_105, smX3_within, ldX3_within⟩
theorem flX2_109 : Cond.fieldLinkNest RX2 109 "HigherMoreLeft$Back" "left" "I" "HigherMoreLeft" ∈ lw_tbl := List.mem_of_getElem? (i := 105) (by decide +kernel)
theorem flX2_112 : Cond.fieldLinkNest RX2 112 "HigherMoreLeft$Back" "bit" "I" "HigherMoreLeft" ∈ lw_tbl := List.mem_of_getElem? (i := 107) (by decide +kernel)
theorem flX2_115 : Cond.fieldLinkNest RX2 115 "HigherMoreLeft$Back" "lot" "I" "HigherMoreLeft" ∈ lw_tbl := List.mem_of_getElem? (i := 111) (by decide +kernel)
theorem cdX2_tellHe : Cond.code yX2_tellHe cX2_tellHe 5 (some .boolean) ∈ gw := gw_at 381 (by decide +kernel) rfl
theorem ldX2_tellHe : LkD yX2_tellHe cX2_tellHe 5 (some .boolean) 4 := ⟨iniX2, cdX2_tellHe, by decide +kernel, by decide +kernel, by decide +kernel⟩
theorem mlX2_77 : Cond.methodLink RX2 77 yX2_tellHe ∈ gw := gw_at 379 (by decide +kernel) rfl
theorem smX2_tellHe : Cond.static yX2_tellHe ∈ gw := gw_at 380 (by decide +kernel) rfl
theorem lkX2_77 : LkS RX2 77 yX2_tellHe cX2_tellHe 5 (some .boolean) 4 := ⟨mlX2_77, smX2_tellHe, ldX2_tellHe⟩
theorem cdX2_cellAt : Cond.code yX2_cellAt cX2_cellAt 2 (some .int) ∈ gw := gw_at 365 (by decide +kernel) rfl
theorem ldX2_cellAt : LkD yX2_cellAt cX2_cellAt 2 (some .int) 1 := ⟨iniX2, cdX2_cellAt, by decide +kernel, by decide +kernel, by decide +kernel⟩
theorem mlX2_70 : Cond.methodLink RX2 70 yX2_cellAt ∈ gw := gw_at 362 (by decide +kernel) rfl
theorem imX2_cellAt : Cond.instanceMethod yX2_cellAt ∈ gw := gw_at 364 (by decide +kernel) rfl
theorem seX2_cellAt : Cond.selects (yX2_cellAt).cls yX2_cellAt yX2_cellAt ∈ gw := gw_at 7 (by decide +kernel) rfl
theorem lkX2_70 : LkV RX2 70 yX2_cellAt cX2_cellAt 2 (some .int) 1 := ⟨mlX2_70, imX2_cellAt, seX2_cellAt, ldX2_cellAt⟩
theorem cdX3_isNot : Cond.code yX3_isNot cX3_isNot 2 (some .boolean) ∈ gw := gw_at 375 (by decide +kernel) rfl
theorem ldX3_isNot : LkD yX3_isNot cX3_isNot 2 (some .boolean) 2 := ⟨iniX3, cdX3_isNot, by decide +kernel, by decide +kernel, by decide +kernel⟩
theorem mlX2_90 : Cond.methodLinkNest RX2 90 yX3_isNot "HigherMoreLeft" ∈ lw_tbl := List.mem_of_getElem? (i := 373) (by decide +kernel)
theorem smX3_isNot : Cond.static yX3_isNot ∈ gw := gw_at 374 (by decide +kernel) rfl
theorem lkX2_90 : LkSN RX2 90 yX3_isNot "HigherMoreLeft" cX3_isNot 2 (some .boolean) 2 := ⟨mlX2_90, smX3_isNot, ldX3_isNot⟩
theorem cdX3_isNoCell : Cond.code yX3_isNoCell cX3_isNoCell 1 (some .boolean) ∈ gw := gw_at 378 (by decide +kernel) rfl
theorem ldX3_isNoCell : LkD yX3_isNoCell cX3_isNoCell 1 (some .boolean) 1 := ⟨iniX3, cdX3_isNoCell, by decide +kernel, by decide +kernel, by decide +kernel⟩
theorem mlX2_93 : Cond.methodLinkNest RX2 93 yX3_isNoCell "HigherMoreLeft" ∈ lw_tbl := List.mem_of_getElem? (i := 376) (by decide +kernel)
theorem smX3_isNoCell : Cond.static yX3_isNoCell ∈ gw := gw_at 377 (by decide +kernel) rfl
theorem lkX2_93 : LkSN RX2 93 yX3_isNoCell "HigherMoreLeft" cX3_isNoCell 1 (some .boolean) 1 := ⟨mlX2_93, smX3_isNoCell, ldX3_isNoCell⟩
theorem flX2_97 : Cond.fieldLinkNest RX2 97 "HigherMoreLeft$Back" "kind" "I" "HigherMoreLeft" ∈ lw_tbl := List.mem_of_getElem? (i := 94) (by decide +kernel)
theorem flX2_102 : Cond.fieldLinkNest RX2 102 "HigherMoreLeft$Back" "place" "I" "HigherMoreLeft" ∈ lw_tbl := List.mem_of_getElem? (i := 97) (by decide +kernel)
theorem cdX2_tellItch : Cond.code yX2_tellItch cX2_tellItch 3 (some .boolean) ∈ gw := gw_at 372 (by decide +kernel) rfl
theorem ldX2_tellItch : LkD yX2_tellItch cX2_tellItch 3 (some .boolean) 3 := ⟨iniX2, cdX2_tellItch, by decide +kernel, by decide +kernel, by decide +kernel⟩
theorem mlX2_73 : Cond.methodLink RX2 73 yX2_tellItch ∈ gw := gw_at 370 (by decide +kernel) rfl
theorem smX2_tellItch : Cond.static yX2_tellItch ∈ gw := gw_at 371 (by decide +kernel) rfl
theorem lkX2_73 : LkS RX2 73 yX2_tellItch cX2_tellItch 3 (some .boolean) 3 := ⟨mlX2_73, smX2_tellItch, ldX2_tellItch⟩
theorem flX2_118 : Cond.fieldLinkNest RX2 118 "HigherMoreLeft$Back" "seam" "I" "HigherMoreLeft" ∈ lw_tbl := List.mem_of_getElem? (i := 113) (by decide +kernel)
theorem cdX2_tellSeam : Cond.code yX2_tellSeam cX2_tellSeam 3 (some .boolean) ∈ gw := gw_at 387 (by decide +kernel) rfl
theorem ldX2_tellSeam : LkD yX2_tellSeam cX2_tellSeam 3 (some .boolean) 2 := ⟨iniX2, cdX2_tellSeam, by decide +kernel, by decide +kernel, by decide +kernel⟩
theorem mlX2_81 : Cond.methodLink RX2 81 yX2_tellSeam ∈ gw := gw_at 385 (by decide +kernel) rfl
theorem smX2_tellSeam : Cond.static yX2_tellSeam ∈ gw := gw_at 386 (by decide +kernel) rfl
theorem lkX2_81 : LkS RX2 81 yX2_tellSeam cX2_tellSeam 3 (some .boolean) 2 := ⟨mlX2_81, smX2_tellSeam, ldX2_tellSeam⟩
theorem flX2_121 : Cond.fieldLinkNest RX2 121 "HigherMoreLeft$Back" "time" "I" "HigherMoreLeft" ∈ lw_tbl := List.mem_of_getElem? (i := 102) (by decide +kernel)
theorem mlX0_46 : Cond.methodLinkNest RX0 46 yX3_isNoCell "HigherMoreLeft" ∈ lw_tbl := List.mem_of_getElem? (i := 395) (by decide +kernel)
theorem lkX0_46 : LkSN RX0 46 yX3_isNoCell "HigherMoreLeft" cX3_isNoCell 1 (some .boolean) 1 := ⟨mlX0_46, smX3_isNoCell, ldX3_isNoCell⟩
theorem mlX0_54 : Cond.methodLink RX0 54 Lib.Math.min.name ∈ gw := gw_at 396 (by decide +kernel) rfl
theorem cdX0_awayFromHand : Cond.code yX0_awayFromHand cX0_awayFromHand 2 (some .int) ∈ gw := gw_at 415 (by decide +kernel) rfl
theorem ldX0_awayFromHand : LkD yX0_awayFromHand cX0_awayFromHand 2 (some .int) 0 := ⟨iniX0, cdX0_awayFromHand, by decide +kernel, by decide +kernel, by decide +kernel⟩
theorem mlX0_75 : Cond.methodLink RX0 75 yX0_awayFromHand ∈ gw := gw_at 412 (by decide +kernel) rfl
theorem imX0_awayFromHand : Cond.instanceMethod yX0_awayFromHand ∈ gw := gw_at 414 (by decide +kernel) rfl
theorem seX0_awayFromHand : Cond.selects (yX0_awayFromHand).cls yX0_awayFromHand yX0_awayFromHand ∈ gw := gw_at 13 (by decide +kernel) rfl
theorem lkX0_75 : LkV RX0 75 yX0_awayFromHand cX0_awayFromHand 2 (some .int) 0 := ⟨mlX0_75, imX0_awayFromHand, seX0_awayFromHand, ldX0_awayFromHand⟩
theorem cdX0_soreAt : Cond.code yX0_soreAt cX0_soreAt 2 (some .int) ∈ gw := gw_at 404 (by decide +kernel) rfl
theorem ldX0_soreAt : LkD yX0_soreAt cX0_soreAt 2 (some .int) 1 := ⟨iniX0, cdX0_soreAt, by decide +kernel, by decide +kernel, by decide +kernel⟩
theorem mlX0_66 : Cond.methodLink RX0 66 yX0_soreAt ∈ gw := gw_at 401 (by decide +kernel) rfl
theorem imX0_soreAt : Cond.instanceMethod yX0_soreAt ∈ gw := gw_at 403 (by decide +kernel) rfl
theorem seX0_soreAt : Cond.selects (yX0_soreAt).cls yX0_soreAt yX0_soreAt ∈ gw := gw_at 11 (by decide +kernel) rfl
theorem lkX0_66 : LkV RX0 66 yX0_soreAt cX0_soreAt 2 (some .int) 1 := ⟨mlX0_66, imX0_soreAt, seX0_soreAt, ldX0_soreAt⟩
theorem iniJ6 : Cond.initialized RJ6 ∈ gw := gw_at 76 (by decide +kernel) rfl
theorem cdJ6_compare_7cf53 : Cond.code yJ6_compare_7cf53 cJ6_compare_7cf53 2 (some .int) ∈ gw := gw_at 411 (by decide +kernel) rfl
theorem ldJ6_compare_7cf53 : LkD yJ6_compare_7cf53 cJ6_compare_7cf53 2 (some .int) 2 := ⟨iniJ6, cdJ6_compare_7cf53, by decide +kernel, by decide +kernel, by decide +kernel⟩
theorem mlX0_70 : Cond.methodLink RX0 70 yJ6_compare_7cf53 ∈ gw := gw_at 409 (by decide +kernel) rfl
theorem smJ6_compare_7cf53 : Cond.static yJ6_compare_7cf53 ∈ gw := gw_at 410 (by decide +kernel) rfl
theorem lkX0_70 : LkS RX0 70 yJ6_compare_7cf53 cJ6_compare_7cf53 2 (some .int) 2 := ⟨mlX0_70, smJ6_compare_7cf53, ldJ6_compare_7cf53⟩
theorem cdX0_whenBeside : Cond.code yX0_whenBeside cX0_whenBeside 4 (some .int) ∈ gw := gw_at 408 (by decide +kernel) rfl
theorem ldX0_whenBeside : LkD yX0_whenBeside cX0_whenBeside 4 (some .int) 0 := ⟨iniX0, cdX0_whenBeside, by decide +kernel, by decide +kernel, by decide +kernel⟩
theorem mlX0_63 : Cond.methodLink RX0 63 yX0_whenBeside ∈ gw := gw_at 405 (by decide +kernel) rfl
theorem imX0_whenBeside : Cond.instanceMethod yX0_whenBeside ∈ gw := gw_at 407 (by decide +kernel) rfl
theorem seX0_whenBeside : Cond.selects (yX0_whenBeside).cls yX0_whenBeside yX0_whenBeside ∈ gw := gw_at 12 (by decide +kernel) rfl
theorem lkX0_63 : LkV RX0 63 yX0_whenBeside cX0_whenBeside 4 (some .int) 0 := ⟨mlX0_63, imX0_whenBeside, seX0_whenBeside, ldX0_whenBeside⟩
theorem cdX0_whenStruck : Cond.code yX0_whenStruck cX0_whenStruck 1 (some .int) ∈ gw := gw_at 400 (by decide +kernel) rfl
theorem ldX0_whenStruck : LkD yX0_whenStruck cX0_whenStruck 1 (some .int) 0 := ⟨iniX0, cdX0_whenStruck, by decide +kernel, by decide +kernel, by decide +kernel⟩
theorem mlX0_59 : Cond.methodLink RX0 59 yX0_whenStruck ∈ gw := gw_at 397 (by decide +kernel) rfl
theorem imX0_whenStruck : Cond.instanceMethod yX0_whenStruck ∈ gw := gw_at 399 (by decide +kernel) rfl
theorem seX0_whenStruck : Cond.selects (yX0_whenStruck).cls yX0_whenStruck yX0_whenStruck ∈ gw := gw_at 10 (by decide +kernel) rfl
theorem lkX0_59 : LkV RX0 59 yX0_whenStruck cX0_whenStruck 1 (some .int) 0 := ⟨mlX0_59, imX0_whenStruck, seX0_whenStruck, ldX0_whenStruck⟩
theorem cdX0_strokeOn : Cond.code yX0_strokeOn cX0_strokeOn 2 none ∈ gw := gw_at 394 (by decide +kernel) rfl
theorem ldX0_strokeOn : LkD yX0_strokeOn cX0_strokeOn 2 none 1 := ⟨iniX0, cdX0_strokeOn, by decide +kernel, by decide +kernel, by decide +kernel⟩
theorem mlX2_124 : Cond.methodLinkNest RX2 124 yX0_strokeOn "HigherMoreLeft" ∈ lw_tbl := List.mem_of_getElem? (i := 391) (by decide +kernel)
theorem imX0_strokeOn : Cond.instanceMethod yX0_strokeOn ∈ gw := gw_at 393 (by decide +kernel) rfl
theorem seX0_strokeOn : Cond.selects (yX0_strokeOn).cls yX0_strokeOn yX0_strokeOn ∈ gw := gw_at 9 (by decide +kernel) rfl
theorem lkX2_124 : LkVN RX2 124 yX0_strokeOn "HigherMoreLeft" cX0_strokeOn 2 none 1 := ⟨mlX2_124, imX0_strokeOn, seX0_strokeOn, ldX0_strokeOn⟩
theorem cdX2_tellStroke : Cond.code yX2_tellStroke cX2_tellStroke 2 (some .boolean) ∈ gw := gw_at 390 (by decide +kernel) rfl
theorem ldX2_tellStroke : LkD yX2_tellStroke cX2_tellStroke 2 (some .boolean) 2 := ⟨iniX2, cdX2_tellStroke, by decide +kernel, by decide +kernel, by decide +kernel⟩
theorem mlX2_84 : Cond.methodLink RX2 84 yX2_tellStroke ∈ gw := gw_at 388 (by decide +kernel) rfl
theorem smX2_tellStroke : Cond.static yX2_tellStroke ∈ gw := gw_at 389 (by decide +kernel) rfl
theorem lkX2_84 : LkS RX2 84 yX2_tellStroke cX2_tellStroke 2 (some .boolean) 2 := ⟨mlX2_84, smX2_tellStroke, ldX2_tellStroke⟩
theorem cdX0_setSore : Cond.code yX0_setSore cX0_setSore 3 none ∈ gw := gw_at 422 (by decide +kernel) rfl
theorem ldX0_setSore : LkD yX0_setSore cX0_setSore 3 none 2 := ⟨iniX0, cdX0_setSore, by decide +kernel, by decide +kernel, by decide +kernel⟩
theorem mlX2_128 : Cond.methodLinkNest RX2 128 yX0_setSore "HigherMoreLeft" ∈ lw_tbl := List.mem_of_getElem? (i := 419) (by decide +kernel)
theorem imX0_setSore : Cond.instanceMethod yX0_setSore ∈ gw := gw_at 421 (by decide +kernel) rfl
theorem seX0_setSore : Cond.selects (yX0_setSore).cls yX0_setSore yX0_setSore ∈ gw := gw_at 14 (by decide +kernel) rfl
theorem lkX2_128 : LkVN RX2 128 yX0_setSore "HigherMoreLeft" cX0_setSore 3 none 2 := ⟨mlX2_128, imX0_setSore, seX0_setSore, ldX0_setSore⟩
theorem cdX2_tellSore : Cond.code yX2_tellSore cX2_tellSore 3 (some .boolean) ∈ gw := gw_at 418 (by decide +kernel) rfl
theorem ldX2_tellSore : LkD yX2_tellSore cX2_tellSore 3 (some .boolean) 3 := ⟨iniX2, cdX2_tellSore, by decide +kernel, by decide +kernel, by decide +kernel⟩
theorem mlX2_87 : Cond.methodLink RX2 87 yX2_tellSore ∈ gw := gw_at 416 (by decide +kernel) rfl
theorem smX2_tellSore : Cond.static yX2_tellSore ∈ gw := gw_at 417 (by decide +kernel) rfl
theorem lkX2_87 : LkS RX2 87 yX2_tellSore cX2_tellSore 3 (some .boolean) 3 := ⟨mlX2_87, smX2_tellSore, ldX2_tellSore⟩
theorem cdX2_tellOne : Cond.code yX2_tellOne cX2_tellOne 3 (some .boolean) ∈ gw := gw_at 361 (by decide +kernel) rfl
theorem ldX2_tellOne : LkD yX2_tellOne cX2_tellOne 3 (some .boolean) 2 := ⟨iniX2, cdX2_tellOne, by decide +kernel, by decide +kernel, by decide +kernel⟩
theorem mlX2_23 : Cond.methodLink RX2 23 yX2_tellOne ∈ gw := gw_at 358 (by decide +kernel) rfl
theorem imX2_tellOne : Cond.instanceMethod yX2_tellOne ∈ gw := gw_at 360 (by decide +kernel) rfl
theorem seX2_tellOne : Cond.selects (yX2_tellOne).cls yX2_tellOne yX2_tellOne ∈ gw := gw_at 6 (by decide +kernel) rfl
theorem lkX2_23 : LkV RX2 23 yX2_tellOne cX2_tellOne 3 (some .boolean) 2 := ⟨mlX2_23, imX2_tellOne, seX2_tellOne, ldX2_tellOne⟩
theorem cdX2_tellTo : Cond.code yX2_tellTo cX2_tellTo 6 (some .int) ∈ gw := gw_at 226 (by decide +kernel) rfl
theorem ldX2_tellTo : LkD yX2_tellTo cX2_tellTo 6 (some .int) 1 := ⟨iniX2, cdX2_tellTo, by decide +kernel, by decide +kernel, by decide +kernel⟩
theorem mlX3_71 : Cond.methodLinkNest RX3 71 yX2_tellTo "HigherMoreLeft" ∈ lw_tbl := List.mem_of_getElem? (i := 223) (by decide +kernel)
theorem imX2_tellTo : Cond.instanceMethod yX2_tellTo ∈ gw := gw_at 225 (by decide +kernel) rfl
theorem seX2_tellTo : Cond.selects (yX2_tellTo).cls yX2_tellTo yX2_tellTo ∈ gw := gw_at 3 (by decide +kernel) rfl
theorem lkX3_71 : LkVN RX3 71 yX2_tellTo "HigherMoreLeft" cX2_tellTo 6 (some .int) 1 := ⟨mlX3_71, imX2_tellTo, seX2_tellTo, ldX2_tellTo⟩
theorem mlX3_75 : Cond.methodLink RX3 75 yX3_isNot ∈ gw := gw_at 428 (by decide +kernel) rfl
theorem lkX3_75 : LkS RX3 75 yX3_isNot cX3_isNot 2 (some .boolean) 2 := ⟨mlX3_75, smX3_isNot, ldX3_isNot⟩
theorem flX3_82 : Cond.fieldLinkNest RX3 82 "HigherMoreLeft$Back" "place" "I" "HigherMoreLeft" ∈ lw_tbl := List.mem_of_getElem? (i := 96) (by decide +kernel)
theorem flX3_79 : Cond.fieldLinkNest RX3 79 "HigherMoreLeft$Back" "kind" "I" "HigherMoreLeft" ∈ lw_tbl := List.mem_of_getElem? (i := 93) (by decide +kernel)
theorem mlX3_85 : Cond.methodLink RX3 85 yX3_isNoCell ∈ gw := gw_at 433 (by decide +kernel) rfl
theorem lkX3_85 : LkS RX3 85 yX3_isNoCell cX3_isNoCell 1 (some .boolean) 1 := ⟨mlX3_85, smX3_isNoCell, ldX3_isNoCell⟩
theorem mlX3_89 : Cond.methodLinkNest RX3 89 yX0_soreAt "HigherMoreLeft" ∈ lw_tbl := List.mem_of_getElem? (i := 434) (by decide +kernel)
theorem lkX3_89 : LkVN RX3 89 yX0_soreAt "HigherMoreLeft" cX0_soreAt 2 (some .int) 1 := ⟨mlX3_89, imX0_soreAt, seX0_soreAt, ldX0_soreAt⟩
theorem mlX3_92 : Cond.methodLinkNest RX3 92 yX0_setSore "HigherMoreLeft" ∈ lw_tbl := List.mem_of_getElem? (i := 439) (by decide +kernel)
theorem lkX3_92 : LkVN RX3 92 yX0_setSore "HigherMoreLeft" cX0_setSore 3 none 2 := ⟨mlX3_92, imX0_setSore, seX0_setSore, ldX0_setSore⟩
theorem flX3_96 : Cond.fieldLink RX3 96 "HigherMoreLeft" "HE_LEAST" "[I" ∈ gw := gw_at 444 (by decide +kernel) rfl
theorem flX3_99 : Cond.fieldLink RX3 99 "HigherMoreLeft" "HE_MOST" "[I" ∈ gw := gw_at 446 (by decide +kernel) rfl
theorem cdX0_changeHe : Cond.code yX0_changeHe cX0_changeHe 4 (some .int) ∈ gw := gw_at 451 (by decide +kernel) rfl
theorem ldX0_changeHe : LkD yX0_changeHe cX0_changeHe 4 (some .int) 2 := ⟨iniX0, cdX0_changeHe, by decide +kernel, by decide +kernel, by decide +kernel⟩
theorem mlX3_102 : Cond.methodLinkNest RX3 102 yX0_changeHe "HigherMoreLeft" ∈ lw_tbl := List.mem_of_getElem? (i := 448) (by decide +kernel)
theorem imX0_changeHe : Cond.instanceMethod yX0_changeHe ∈ gw := gw_at 450 (by decide +kernel) rfl
theorem seX0_changeHe : Cond.selects (yX0_changeHe).cls yX0_changeHe yX0_changeHe ∈ gw := gw_at 15 (by decide +kernel) rfl
theorem lkX3_102 : LkVN RX3 102 yX0_changeHe "HigherMoreLeft" cX0_changeHe 4 (some .int) 2 := ⟨mlX3_102, imX0_changeHe, seX0_changeHe, ldX0_changeHe⟩
theorem flX3_106 : Cond.fieldLinkNest RX3 106 "HigherMoreLeft$Back" "time" "I" "HigherMoreLeft" ∈ lw_tbl := List.mem_of_getElem? (i := 101) (by decide +kernel)
theorem mlX3_109 : Cond.methodLinkNest RX3 109 yX0_strokeOn "HigherMoreLeft" ∈ lw_tbl := List.mem_of_getElem? (i := 456) (by decide +kernel)
theorem lkX3_109 : LkVN RX3 109 yX0_strokeOn "HigherMoreLeft" cX0_strokeOn 2 none 1 := ⟨mlX3_109, imX0_strokeOn, seX0_strokeOn, ldX0_strokeOn⟩
theorem mlX3_211 : Cond.methodLink RX3 211 Lib.Math.abs.name ∈ gw := gw_at 464 (by decide +kernel) rfl
theorem smMabs : Cond.static Lib.Math.abs.name ∈ gw := gw_at 465 (by decide +kernel) rfl
theorem cdMabs : Cond.code Lib.Math.abs.name Lib.Math.abs.code 1 (some .int) ∈ gw := gw_at 466 (by decide +kernel) rfl
theorem cdX3_farApart : Cond.code yX3_farApart cX3_farApart 2 (some .int) ∈ gw := gw_at 463 (by decide +kernel) rfl
theorem ldX3_farApart : LkD yX3_farApart cX3_farApart 2 (some .int) 2 := ⟨iniX3, cdX3_farApart, by decide +kernel, by decide +kernel, by decide +kernel⟩
theorem mlX3_113 : Cond.methodLink RX3 113 yX3_farApart ∈ gw := gw_at 461 (by decide +kernel) rfl
theorem smX3_farApart : Cond.static yX3_farApart ∈ gw := gw_at 462 (by decide +kernel) rfl
theorem lkX3_113 : LkS RX3 113 yX3_farApart cX3_farApart 2 (some .int) 2 := ⟨mlX3_113, smX3_farApart, ldX3_farApart⟩
theorem cdX3_wordSaid : Cond.code yX3_wordSaid cX3_wordSaid 7 (some .int) ∈ gw := gw_at 477 (by decide +kernel) rfl
theorem ldX3_wordSaid : LkD yX3_wordSaid cX3_wordSaid 7 (some .int) 4 := ⟨iniX3, cdX3_wordSaid, by decide +kernel, by decide +kernel, by decide +kernel⟩
theorem mlX0_78 : Cond.methodLinkNest RX0 78 yX3_wordSaid "HigherMoreLeft" ∈ lw_tbl := List.mem_of_getElem? (i := 475) (by decide +kernel)
theorem smX3_wordSaid : Cond.static yX3_wordSaid ∈ gw := gw_at 476 (by decide +kernel) rfl
theorem lkX0_78 : LkSN RX0 78 yX3_wordSaid "HigherMoreLeft" cX3_wordSaid 7 (some .int) 4 := ⟨mlX0_78, smX3_wordSaid, ldX3_wordSaid⟩
theorem cdX0_wordNow : Cond.code yX0_wordNow cX0_wordNow 1 (some .int) ∈ gw := gw_at 474 (by decide +kernel) rfl
theorem ldX0_wordNow : LkD yX0_wordNow cX0_wordNow 1 (some .int) 0 := ⟨iniX0, cdX0_wordNow, by decide +kernel, by decide +kernel, by decide +kernel⟩
theorem mlX3_116 : Cond.methodLinkNest RX3 116 yX0_wordNow "HigherMoreLeft" ∈ lw_tbl := List.mem_of_getElem? (i := 471) (by decide +kernel)
theorem imX0_wordNow : Cond.instanceMethod yX0_wordNow ∈ gw := gw_at 473 (by decide +kernel) rfl
theorem seX0_wordNow : Cond.selects (yX0_wordNow).cls yX0_wordNow yX0_wordNow ∈ gw := gw_at 16 (by decide +kernel) rfl
theorem lkX3_116 : LkVN RX3 116 yX0_wordNow "HigherMoreLeft" cX0_wordNow 1 (some .int) 0 := ⟨mlX3_116, imX0_wordNow, seX0_wordNow, ldX0_wordNow⟩
theorem flX3_120 : Cond.fieldLinkNest RX3 120 "HigherMoreLeft$Back" "left" "I" "HigherMoreLeft" ∈ lw_tbl := List.mem_of_getElem? (i := 104) (by decide +kernel)
theorem flX3_123 : Cond.fieldLinkNest RX3 123 "HigherMoreLeft$Back" "lot" "I" "HigherMoreLeft" ∈ lw_tbl := List.mem_of_getElem? (i := 110) (by decide +kernel)
theorem mlX3_126 : Cond.methodLink RX3 126 yX3_wordSaid ∈ gw := gw_at 482 (by decide +kernel) rfl
theorem lkX3_126 : LkS RX3 126 yX3_wordSaid cX3_wordSaid 7 (some .int) 4 := ⟨mlX3_126, smX3_wordSaid, ldX3_wordSaid⟩
theorem cdX0_stepsOf : Cond.code yX0_stepsOf cX0_stepsOf 4 (some .int) ∈ gw := gw_at 501 (by decide +kernel) rfl
theorem ldX0_stepsOf : LkD yX0_stepsOf cX0_stepsOf 4 (some .int) 2 := ⟨iniX0, cdX0_stepsOf, by decide +kernel, by decide +kernel, by decide +kernel⟩
theorem mlX0_85 : Cond.methodLink RX0 85 yX0_stepsOf ∈ gw := gw_at 498 (by decide +kernel) rfl
theorem imX0_stepsOf : Cond.instanceMethod yX0_stepsOf ∈ gw := gw_at 500 (by decide +kernel) rfl
theorem seX0_stepsOf : Cond.selects (yX0_stepsOf).cls yX0_stepsOf yX0_stepsOf ∈ gw := gw_at 18 (by decide +kernel) rfl
theorem lkX0_85 : LkV RX0 85 yX0_stepsOf cX0_stepsOf 4 (some .int) 2 := ⟨mlX0_85, imX0_stepsOf, seX0_stepsOf, ldX0_stepsOf⟩
theorem mlX0_92 : Cond.methodLink RX0 92 Lib.Math.max.name ∈ gw := gw_at 505 (by decide +kernel) rfl
theorem cdX0_clamp : Cond.code yX0_clamp cX0_clamp 2 (some .int) ∈ gw := gw_at 504 (by decide +kernel) rfl
theorem ldX0_clamp : LkD yX0_clamp cX0_clamp 2 (some .int) 2 := ⟨iniX0, cdX0_clamp, by decide +kernel, by decide +kernel, by decide +kernel⟩
theorem mlX0_89 : Cond.methodLink RX0 89 yX0_clamp ∈ gw := gw_at 502 (by decide +kernel) rfl
theorem smX0_clamp : Cond.static yX0_clamp ∈ gw := gw_at 503 (by decide +kernel) rfl
theorem lkX0_89 : LkS RX0 89 yX0_clamp cX0_clamp 2 (some .int) 2 := ⟨mlX0_89, smX0_clamp, ldX0_clamp⟩
theorem iniJ9 : Cond.initialized RJ9 ∈ gw := gw_at 74 (by decide +kernel) rfl
theorem cdJ9_floorMod_7cf53 : Cond.code yJ9_floorMod_7cf53 cJ9_floorMod_7cf53 3 (some .int) ∈ gw := gw_at 497 (by decide +kernel) rfl
theorem ldJ9_floorMod_7cf53 : LkD yJ9_floorMod_7cf53 cJ9_floorMod_7cf53 3 (some .int) 2 := ⟨iniJ9, cdJ9_floorMod_7cf53, by decide +kernel, by decide +kernel, by decide +kernel⟩
theorem mlX0_82 : Cond.methodLink RX0 82 yJ9_floorMod_7cf53 ∈ gw := gw_at 495 (by decide +kernel) rfl
theorem smJ9_floorMod_7cf53 : Cond.static yJ9_floorMod_7cf53 ∈ gw := gw_at 496 (by decide +kernel) rfl
theorem lkX0_82 : LkS RX0 82 yJ9_floorMod_7cf53 cJ9_floorMod_7cf53 3 (some .int) 2 := ⟨mlX0_82, smJ9_floorMod_7cf53, ldJ9_floorMod_7cf53⟩
theorem cdX0_readBy : Cond.code yX0_readBy cX0_readBy 8 (some .int) ∈ gw := gw_at 494 (by decide +kernel) rfl
theorem ldX0_readBy : LkD yX0_readBy cX0_readBy 8 (some .int) 3 := ⟨iniX0, cdX0_readBy, by decide +kernel, by decide +kernel, by decide +kernel⟩
theorem mlX3_130 : Cond.methodLinkNest RX3 130 yX0_readBy "HigherMoreLeft" ∈ lw_tbl := List.mem_of_getElem? (i := 491) (by decide +kernel)
theorem imX0_readBy : Cond.instanceMethod yX0_readBy ∈ gw := gw_at 493 (by decide +kernel) rfl
theorem seX0_readBy : Cond.selects (yX0_readBy).cls yX0_readBy yX0_readBy ∈ gw := gw_at 17 (by decide +kernel) rfl
theorem lkX3_130 : LkVN RX3 130 yX0_readBy "HigherMoreLeft" cX0_readBy 8 (some .int) 3 := ⟨mlX3_130, imX0_readBy, seX0_readBy, ldX0_readBy⟩
theorem mlX0_95 : Cond.methodLink RX0 95 yX0_wordNow ∈ gw := gw_at 514 (by decide +kernel) rfl
theorem lkX0_95 : LkV RX0 95 yX0_wordNow cX0_wordNow 1 (some .int) 0 := ⟨mlX0_95, imX0_wordNow, seX0_wordNow, ldX0_wordNow⟩
theorem mlX0_98 : Cond.methodLink RX0 98 yX0_readBy ∈ gw := gw_at 515 (by decide +kernel) rfl
theorem lkX0_98 : LkV RX0 98 yX0_readBy cX0_readBy 8 (some .int) 3 := ⟨mlX0_98, imX0_readBy, seX0_readBy, ldX0_readBy⟩
theorem mlX0_102 : Cond.methodLink RX0 102 yX0_strokeOn ∈ gw := gw_at 516 (by decide +kernel) rfl
theorem lkX0_102 : LkV RX0 102 yX0_strokeOn cX0_strokeOn 2 none 1 := ⟨mlX0_102, imX0_strokeOn, seX0_strokeOn, ldX0_strokeOn⟩
theorem cdX0_followBy : Cond.code yX0_followBy cX0_followBy 3 (some .int) ∈ gw := gw_at 513 (by decide +kernel) rfl
theorem ldX0_followBy : LkD yX0_followBy cX0_followBy 3 (some .int) 1 := ⟨iniX0, cdX0_followBy, by decide +kernel, by decide +kernel, by decide +kernel⟩
theorem mlX3_134 : Cond.methodLinkNest RX3 134 yX0_followBy "HigherMoreLeft" ∈ lw_tbl := List.mem_of_getElem? (i := 510) (by decide +kernel)
theorem imX0_followBy : Cond.instanceMethod yX0_followBy ∈ gw := gw_at 512 (by decide +kernel) rfl
theorem seX0_followBy : Cond.selects (yX0_followBy).cls yX0_followBy yX0_followBy ∈ gw := gw_at 19 (by decide +kernel) rfl
theorem lkX3_134 : LkVN RX3 134 yX0_followBy "HigherMoreLeft" cX0_followBy 3 (some .int) 1 := ⟨mlX3_134, imX0_followBy, seX0_followBy, ldX0_followBy⟩
theorem clX3_201 : Cond.constantLong RX3 201 4000000000000000000 ∈ gw := gw_at 525 (by decide +kernel) rfl
theorem cdX3_refuseLong : Cond.code yX3_refuseLong cX3_refuseLong 2 (some .long) ∈ gw := gw_at 524 (by decide +kernel) rfl
theorem ldX3_refuseLong : LkD yX3_refuseLong cX3_refuseLong 2 (some .long) 1 := ⟨iniX3, cdX3_refuseLong, by decide +kernel, by decide +kernel, by decide +kernel⟩
theorem mlX3_137 : Cond.methodLink RX3 137 yX3_refuseLong ∈ gw := gw_at 521 (by decide +kernel) rfl
theorem imX3_refuseLong : Cond.instanceMethod yX3_refuseLong ∈ gw := gw_at 523 (by decide +kernel) rfl
theorem seX3_refuseLong : Cond.selects (yX3_refuseLong).cls yX3_refuseLong yX3_refuseLong ∈ gw := gw_at 20 (by decide +kernel) rfl
theorem lkX3_137 : LkV RX3 137 yX3_refuseLong cX3_refuseLong 2 (some .long) 1 := ⟨mlX3_137, imX3_refuseLong, seX3_refuseLong, ldX3_refuseLong⟩
theorem clX3_146 : Cond.constantLong RX3 146 24 ∈ gw := gw_at 527 (by decide +kernel) rfl
theorem cdX3_commonDivisor : Cond.code yX3_commonDivisor cX3_commonDivisor 11 (some .long) ∈ gw := gw_at 533 (by decide +kernel) rfl
theorem ldX3_commonDivisor : LkD yX3_commonDivisor cX3_commonDivisor 11 (some .long) 2 := ⟨iniX3, cdX3_commonDivisor, by decide +kernel, by decide +kernel, by decide +kernel⟩
theorem mlX3_214 : Cond.methodLink RX3 214 yX3_commonDivisor ∈ gw := gw_at 531 (by decide +kernel) rfl
theorem smX3_commonDivisor : Cond.static yX3_commonDivisor ∈ gw := gw_at 532 (by decide +kernel) rfl
theorem lkX3_214 : LkS RX3 214 yX3_commonDivisor cX3_commonDivisor 11 (some .long) 2 := ⟨mlX3_214, smX3_commonDivisor, ldX3_commonDivisor⟩
theorem cdX3_partOfFraction : Cond.code yX3_partOfFraction cX3_partOfFraction 9 (some .long) ∈ gw := gw_at 530 (by decide +kernel) rfl
theorem ldX3_partOfFraction : LkD yX3_partOfFraction cX3_partOfFraction 9 (some .long) 3 := ⟨iniX3, cdX3_partOfFraction, by decide +kernel, by decide +kernel, by decide +kernel⟩
theorem mlX3_148 : Cond.methodLink RX3 148 yX3_partOfFraction ∈ gw := gw_at 528 (by decide +kernel) rfl
theorem smX3_partOfFraction : Cond.static yX3_partOfFraction ∈ gw := gw_at 529 (by decide +kernel) rfl
theorem lkX3_148 : LkS RX3 148 yX3_partOfFraction cX3_partOfFraction 9 (some .long) 3 := ⟨mlX3_148, smX3_partOfFraction, ldX3_partOfFraction⟩
theorem mlX3_141 : Cond.methodLink RX3 141 Lib.Math.min.name ∈ gw := gw_at 526 (by decide +kernel) rfl
theorem flX3_152 : Cond.fieldLinkNest RX3 152 "HigherMoreLeft$Back" "bit" "I" "HigherMoreLeft" ∈ lw_tbl := List.mem_of_getElem? (i := 108) (by decide +kernel)
theorem flX3_35 : Cond.fieldLink RX3 35 "HigherMoreLeft" "sayings" "LHigherMoreLeft$Sayings;" ∈ gw := gw_at 171 (by decide +kernel) rfl
theorem flX3_155 : Cond.fieldLinkNest RX3 155 "HigherMoreLeft$Sayings" "many" "I" "HigherMoreLeft" ∈ lw_tbl := List.mem_of_getElem? (i := 158) (by decide +kernel)
theorem flX1_18 : Cond.fieldLink RX1 18 "HigherMoreLeft$Sayings" "many" "I" ∈ gw := gw_at 157 (by decide +kernel) rfl
theorem flX1_9 : Cond.fieldLink RX1 9 "HigherMoreLeft$Sayings" "cells" "[I" ∈ gw := gw_at 155 (by decide +kernel) rfl
theorem flX1_15 : Cond.fieldLink RX1 15 "HigherMoreLeft$Sayings" "words" "[I" ∈ gw := gw_at 156 (by decide +kernel) rfl
theorem iniX1 : Cond.initialized RX1 ∈ gw := gw_at 67 (by decide +kernel) rfl
theorem cdX1_add : Cond.code yX1_add cX1_add 3 (some .int) ∈ gw := gw_at 549 (by decide +kernel) rfl
theorem ldX1_add : LkD yX1_add cX1_add 3 (some .int) 2 := ⟨iniX1, cdX1_add, by decide +kernel, by decide +kernel, by decide +kernel⟩
theorem mlX3_156 : Cond.methodLinkNest RX3 156 yX1_add "HigherMoreLeft" ∈ lw_tbl := List.mem_of_getElem? (i := 546) (by decide +kernel)
theorem imX1_add : Cond.instanceMethod yX1_add ∈ gw := gw_at 548 (by decide +kernel) rfl
theorem seX1_add : Cond.selects (yX1_add).cls yX1_add yX1_add ∈ gw := gw_at 21 (by decide +kernel) rfl
theorem lkX3_156 : LkVN RX3 156 yX1_add "HigherMoreLeft" cX1_add 3 (some .int) 2 := ⟨mlX3_156, imX1_add, seX1_add, ldX1_add⟩
theorem mlX1_22 : Cond.methodLinkNest RX1 22 yX3_wordSaid "HigherMoreLeft" ∈ lw_tbl := List.mem_of_getElem? (i := 566) (by decide +kernel)
theorem lkX1_22 : LkSN RX1 22 yX3_wordSaid "HigherMoreLeft" cX3_wordSaid 7 (some .int) 4 := ⟨mlX1_22, smX3_wordSaid, ldX3_wordSaid⟩
theorem cdX1_trueAt : Cond.code yX1_trueAt cX1_trueAt 6 (some .int) ∈ gw := gw_at 565 (by decide +kernel) rfl
theorem ldX1_trueAt : LkD yX1_trueAt cX1_trueAt 6 (some .int) 3 := ⟨iniX1, cdX1_trueAt, by decide +kernel, by decide +kernel, by decide +kernel⟩
theorem mlX1_26 : Cond.methodLink RX1 26 yX1_trueAt ∈ gw := gw_at 562 (by decide +kernel) rfl
theorem imX1_trueAt : Cond.instanceMethod yX1_trueAt ∈ gw := gw_at 564 (by decide +kernel) rfl
theorem seX1_trueAt : Cond.selects (yX1_trueAt).cls yX1_trueAt yX1_trueAt ∈ gw := gw_at 23 (by decide +kernel) rfl
theorem lkX1_26 : LkV RX1 26 yX1_trueAt cX1_trueAt 6 (some .int) 3 := ⟨mlX1_26, imX1_trueAt, seX1_trueAt, ldX1_trueAt⟩
theorem cdX1_cellsBy : Cond.code yX1_cellsBy cX1_cellsBy 5 (some .int) ∈ gw := gw_at 561 (by decide +kernel) rfl
theorem ldX1_cellsBy : LkD yX1_cellsBy cX1_cellsBy 5 (some .int) 2 := ⟨iniX1, cdX1_cellsBy, by decide +kernel, by decide +kernel, by decide +kernel⟩
theorem mlX3_158 : Cond.methodLinkNest RX3 158 yX1_cellsBy "HigherMoreLeft" ∈ lw_tbl := List.mem_of_getElem? (i := 558) (by decide +kernel)
theorem imX1_cellsBy : Cond.instanceMethod yX1_cellsBy ∈ gw := gw_at 560 (by decide +kernel) rfl
theorem seX1_cellsBy : Cond.selects (yX1_cellsBy).cls yX1_cellsBy yX1_cellsBy ∈ gw := gw_at 22 (by decide +kernel) rfl
theorem lkX3_158 : LkVN RX3 158 yX1_cellsBy "HigherMoreLeft" cX1_cellsBy 5 (some .int) 2 := ⟨mlX3_158, imX1_cellsBy, seX1_cellsBy, ldX1_cellsBy⟩
theorem mlX3_179 : Cond.methodLinkNest RX3 179 yX1_trueAt "HigherMoreLeft" ∈ lw_tbl := List.mem_of_getElem? (i := 579) (by decide +kernel)
theorem lkX3_179 : LkVN RX3 179 yX1_trueAt "HigherMoreLeft" cX1_trueAt 6 (some .int) 3 := ⟨mlX3_179, imX1_trueAt, seX1_trueAt, ldX1_trueAt⟩
theorem clX3_203 : Cond.constantLong RX3 203 72 ∈ gw := gw_at 580 (by decide +kernel) rfl
theorem cdX3_weightOf : Cond.code yX3_weightOf cX3_weightOf 6 (some .long) ∈ gw := gw_at 578 (by decide +kernel) rfl
theorem ldX3_weightOf : LkD yX3_weightOf cX3_weightOf 6 (some .long) 1 := ⟨iniX3, cdX3_weightOf, by decide +kernel, by decide +kernel, by decide +kernel⟩
theorem mlX3_161 : Cond.methodLink RX3 161 yX3_weightOf ∈ gw := gw_at 575 (by decide +kernel) rfl
theorem imX3_weightOf : Cond.instanceMethod yX3_weightOf ∈ gw := gw_at 577 (by decide +kernel) rfl
theorem seX3_weightOf : Cond.selects (yX3_weightOf).cls yX3_weightOf yX3_weightOf ∈ gw := gw_at 24 (by decide +kernel) rfl
theorem lkX3_161 : LkV RX3 161 yX3_weightOf cX3_weightOf 6 (some .long) 1 := ⟨mlX3_161, imX3_weightOf, seX3_weightOf, ldX3_weightOf⟩
theorem flX3_43 : Cond.fieldLink RX3 43 "HigherMoreLeft" "groups" "[I" ∈ gw := gw_at 173 (by decide +kernel) rfl
theorem mlX3_205 : Cond.methodLink RX3 205 Lib.Math.max.name ∈ gw := gw_at 589 (by decide +kernel) rfl
theorem cdX3_leftAtWorst : Cond.code yX3_leftAtWorst cX3_leftAtWorst 6 (some .int) ∈ gw := gw_at 588 (by decide +kernel) rfl
theorem ldX3_leftAtWorst : LkD yX3_leftAtWorst cX3_leftAtWorst 6 (some .int) 2 := ⟨iniX3, cdX3_leftAtWorst, by decide +kernel, by decide +kernel, by decide +kernel⟩
theorem mlX3_164 : Cond.methodLink RX3 164 yX3_leftAtWorst ∈ gw := gw_at 585 (by decide +kernel) rfl
theorem imX3_leftAtWorst : Cond.instanceMethod yX3_leftAtWorst ∈ gw := gw_at 587 (by decide +kernel) rfl
theorem seX3_leftAtWorst : Cond.selects (yX3_leftAtWorst).cls yX3_leftAtWorst yX3_leftAtWorst ∈ gw := gw_at 25 (by decide +kernel) rfl
theorem lkX3_164 : LkV RX3 164 yX3_leftAtWorst cX3_leftAtWorst 6 (some .int) 2 := ⟨mlX3_164, imX3_leftAtWorst, seX3_leftAtWorst, ldX3_leftAtWorst⟩
theorem cdX3_strokesOfStrip : Cond.code yX3_strokesOfStrip cX3_strokesOfStrip 7 (some .int) ∈ gw := gw_at 597 (by decide +kernel) rfl
theorem ldX3_strokesOfStrip : LkD yX3_strokesOfStrip cX3_strokesOfStrip 7 (some .int) 1 := ⟨iniX3, cdX3_strokesOfStrip, by decide +kernel, by decide +kernel, by decide +kernel⟩
theorem mlX3_167 : Cond.methodLink RX3 167 yX3_strokesOfStrip ∈ gw := gw_at 594 (by decide +kernel) rfl
theorem imX3_strokesOfStrip : Cond.instanceMethod yX3_strokesOfStrip ∈ gw := gw_at 596 (by decide +kernel) rfl
theorem seX3_strokesOfStrip : Cond.selects (yX3_strokesOfStrip).cls yX3_strokesOfStrip yX3_strokesOfStrip ∈ gw := gw_at 26 (by decide +kernel) rfl
theorem lkX3_167 : LkV RX3 167 yX3_strokesOfStrip cX3_strokesOfStrip 7 (some .int) 1 := ⟨mlX3_167, imX3_strokesOfStrip, seX3_strokesOfStrip, ldX3_strokesOfStrip⟩
theorem flX3_22 : Cond.fieldLink RX3 22 "HigherMoreLeft" "further" "LHigherMoreLeft$Back;" ∈ gw := gw_at 169 (by decide +kernel) rfl
theorem cdX3_canBeGone : Cond.code yX3_canBeGone cX3_canBeGone 3 (some .boolean) ∈ gw := gw_at 613 (by decide +kernel) rfl
theorem ldX3_canBeGone : LkD yX3_canBeGone cX3_canBeGone 3 (some .boolean) 1 := ⟨iniX3, cdX3_canBeGone, by decide +kernel, by decide +kernel, by decide +kernel⟩
theorem mlX3_208 : Cond.methodLink RX3 208 yX3_canBeGone ∈ gw := gw_at 610 (by decide +kernel) rfl
theorem imX3_canBeGone : Cond.instanceMethod yX3_canBeGone ∈ gw := gw_at 612 (by decide +kernel) rfl
theorem seX3_canBeGone : Cond.selects (yX3_canBeGone).cls yX3_canBeGone yX3_canBeGone ∈ gw := gw_at 28 (by decide +kernel) rfl
theorem lkX3_208 : LkV RX3 208 yX3_canBeGone cX3_canBeGone 3 (some .boolean) 1 := ⟨mlX3_208, imX3_canBeGone, seX3_canBeGone, ldX3_canBeGone⟩
theorem cdX3_firstOf : Cond.code yX3_firstOf cX3_firstOf 3 (some .int) ∈ gw := gw_at 609 (by decide +kernel) rfl
theorem ldX3_firstOf : LkD yX3_firstOf cX3_firstOf 3 (some .int) 1 := ⟨iniX3, cdX3_firstOf, by decide +kernel, by decide +kernel, by decide +kernel⟩
theorem mlX3_170 : Cond.methodLink RX3 170 yX3_firstOf ∈ gw := gw_at 606 (by decide +kernel) rfl
theorem imX3_firstOf : Cond.instanceMethod yX3_firstOf ∈ gw := gw_at 608 (by decide +kernel) rfl
theorem seX3_firstOf : Cond.selects (yX3_firstOf).cls yX3_firstOf yX3_firstOf ∈ gw := gw_at 27 (by decide +kernel) rfl
theorem lkX3_170 : LkV RX3 170 yX3_firstOf cX3_firstOf 3 (some .int) 1 := ⟨mlX3_170, imX3_firstOf, seX3_firstOf, ldX3_firstOf⟩
theorem mlX0_50 : Cond.methodLinkNest RX0 50 yX3_farApart "HigherMoreLeft" ∈ lw_tbl := List.mem_of_getElem? (i := 622) (by decide +kernel)
theorem lkX0_50 : LkSN RX0 50 yX3_farApart "HigherMoreLeft" cX3_farApart 2 (some .int) 2 := ⟨mlX0_50, smX3_farApart, ldX3_farApart⟩
theorem cdX0_soreAround : Cond.code yX0_soreAround cX0_soreAround 4 (some .int) ∈ gw := gw_at 621 (by decide +kernel) rfl
theorem ldX0_soreAround : LkD yX0_soreAround cX0_soreAround 4 (some .int) 1 := ⟨iniX0, cdX0_soreAround, by decide +kernel, by decide +kernel, by decide +kernel⟩
theorem mlX3_173 : Cond.methodLinkNest RX3 173 yX0_soreAround "HigherMoreLeft" ∈ lw_tbl := List.mem_of_getElem? (i := 618) (by decide +kernel)
theorem imX0_soreAround : Cond.instanceMethod yX0_soreAround ∈ gw := gw_at 620 (by decide +kernel) rfl
theorem seX0_soreAround : Cond.selects (yX0_soreAround).cls yX0_soreAround yX0_soreAround ∈ gw := gw_at 29 (by decide +kernel) rfl
theorem lkX3_173 : LkVN RX3 173 yX0_soreAround "HigherMoreLeft" cX0_soreAround 4 (some .int) 1 := ⟨mlX3_173, imX0_soreAround, seX0_soreAround, ldX0_soreAround⟩
theorem cdX3_boxOf : Cond.code yX3_boxOf cX3_boxOf 3 (some .int) ∈ gw := gw_at 629 (by decide +kernel) rfl
theorem ldX3_boxOf : LkD yX3_boxOf cX3_boxOf 3 (some .int) 3 := ⟨iniX3, cdX3_boxOf, by decide +kernel, by decide +kernel, by decide +kernel⟩
theorem mlX3_176 : Cond.methodLink RX3 176 yX3_boxOf ∈ gw := gw_at 627 (by decide +kernel) rfl
theorem smX3_boxOf : Cond.static yX3_boxOf ∈ gw := gw_at 628 (by decide +kernel) rfl
theorem lkX3_176 : LkS RX3 176 yX3_boxOf cX3_boxOf 3 (some .int) 3 := ⟨mlX3_176, smX3_boxOf, ldX3_boxOf⟩
theorem flX3_49 : Cond.fieldLink RX3 49 "HigherMoreLeft" "toldMany" "I" ∈ gw := gw_at 175 (by decide +kernel) rfl
theorem flX3_39 : Cond.fieldLink RX3 39 "HigherMoreLeft" "told" "[I" ∈ gw := gw_at 172 (by decide +kernel) rfl
theorem flX3_187 : Cond.fieldLinkNest RX3 187 "HigherMoreLeft$Back" "hand" "I" "HigherMoreLeft" ∈ lw_tbl := List.mem_of_getElem? (i := 99) (by decide +kernel)
theorem cdX3_firstUntrue : Cond.code yX3_firstUntrue cX3_firstUntrue 3 (some .int) ∈ gw := gw_at 645 (by decide +kernel) rfl
theorem ldX3_firstUntrue : LkD yX3_firstUntrue cX3_firstUntrue 3 (some .int) 1 := ⟨iniX3, cdX3_firstUntrue, by decide +kernel, by decide +kernel, by decide +kernel⟩
theorem mlX3_182 : Cond.methodLink RX3 182 yX3_firstUntrue ∈ gw := gw_at 642 (by decide +kernel) rfl
theorem imX3_firstUntrue : Cond.instanceMethod yX3_firstUntrue ∈ gw := gw_at 644 (by decide +kernel) rfl
theorem seX3_firstUntrue : Cond.selects (yX3_firstUntrue).cls yX3_firstUntrue yX3_firstUntrue ∈ gw := gw_at 30 (by decide +kernel) rfl
theorem lkX3_182 : LkV RX3 182 yX3_firstUntrue cX3_firstUntrue 3 (some .int) 1 := ⟨mlX3_182, imX3_firstUntrue, seX3_firstUntrue, ldX3_firstUntrue⟩
theorem cnX3_185 : Cond.constant RX3 185 1664525 ∈ gw := gw_at 654 (by decide +kernel) rfl
theorem cnX3_186 : Cond.constant RX3 186 1013904223 ∈ gw := gw_at 655 (by decide +kernel) rfl
theorem cnX3_190 : Cond.constant RX3 190 2147483647 ∈ gw := gw_at 656 (by decide +kernel) rfl
theorem flX3_16 : Cond.fieldLink RX3 16 "HigherMoreLeft" "kept" "LHigherMoreLeft$Back;" ∈ gw := gw_at 167 (by decide +kernel) rfl
theorem flX3_53 : Cond.fieldLink RX3 53 "HigherMoreLeft" "hasKept" "Z" ∈ gw := gw_at 176 (by decide +kernel) rfl
theorem cdX0_soreOfAll : Cond.code yX0_soreOfAll cX0_soreOfAll 3 (some .int) ∈ gw := gw_at 672 (by decide +kernel) rfl
theorem ldX0_soreOfAll : LkD yX0_soreOfAll cX0_soreOfAll 3 (some .int) 0 := ⟨iniX0, cdX0_soreOfAll, by decide +kernel, by decide +kernel, by decide +kernel⟩
theorem mlX3_191 : Cond.methodLinkNest RX3 191 yX0_soreOfAll "HigherMoreLeft" ∈ lw_tbl := List.mem_of_getElem? (i := 669) (by decide +kernel)
theorem imX0_soreOfAll : Cond.instanceMethod yX0_soreOfAll ∈ gw := gw_at 671 (by decide +kernel) rfl
theorem seX0_soreOfAll : Cond.selects (yX0_soreOfAll).cls yX0_soreOfAll yX0_soreOfAll ∈ gw := gw_at 31 (by decide +kernel) rfl
theorem lkX3_191 : LkVN RX3 191 yX0_soreOfAll "HigherMoreLeft" cX0_soreOfAll 3 (some .int) 0 := ⟨mlX3_191, imX0_soreOfAll, seX0_soreOfAll, ldX0_soreOfAll⟩
theorem flX3_194 : Cond.fieldLinkNest RX3 194 "HigherMoreLeft$Back" "seam" "I" "HigherMoreLeft" ∈ lw_tbl := List.mem_of_getElem? (i := 114) (by decide +kernel)
theorem mlX3_197 : Cond.methodLink RX3 197 yX3_within ∈ gw := gw_at 673 (by decide +kernel) rfl
theorem lkX3_197 : LkS RX3 197 yX3_within cX3_within 3 (some .boolean) 3 := ⟨mlX3_197, smX3_within, ldX3_within⟩
theorem iniX4 : Cond.initialized RX4 ∈ gw := gw_at 68 (by decide +kernel) rfl
theorem cdX4_bound : Cond.code yX4_bound cX4_bound 3 (some .int) ∈ gw := gw_at 765 (by decide +kernel) rfl
theorem ldX4_bound : LkD yX4_bound cX4_bound 3 (some .int) 3 := ⟨iniX4, cdX4_bound, by decide +kernel, by decide +kernel, by decide +kernel⟩
theorem mlX4_52 : Cond.methodLink RX4 52 yX4_bound ∈ gw := gw_at 763 (by decide +kernel) rfl
theorem smX4_bound : Cond.static yX4_bound ∈ gw := gw_at 764 (by decide +kernel) rfl
theorem lkX4_52 : LkS RX4 52 yX4_bound cX4_bound 3 (some .int) 3 := ⟨mlX4_52, smX4_bound, ldX4_bound⟩
theorem flX4_19 : Cond.fieldLink RX4 19 "HigherMoreLeftModel" "tape" "[I" ∈ gw := gw_at 687 (by decide +kernel) rfl
theorem flX4_56 : Cond.fieldLink RX4 56 "HigherMoreLeftModel" "taped" "I" ∈ gw := gw_at 691 (by decide +kernel) rfl
theorem flX4_7 : Cond.fieldLink RX4 7 "HigherMoreLeftModel" "refused" "[I" ∈ gw := gw_at 680 (by decide +kernel) rfl
theorem cdX4_no : Cond.code yX4_no cX4_no 2 (some .int) ∈ gw := gw_at 769 (by decide +kernel) rfl
theorem ldX4_no : LkD yX4_no cX4_no 2 (some .int) 1 := ⟨iniX4, cdX4_no, by decide +kernel, by decide +kernel, by decide +kernel⟩
theorem mlX4_60 : Cond.methodLink RX4 60 yX4_no ∈ gw := gw_at 766 (by decide +kernel) rfl
theorem imX4_no : Cond.instanceMethod yX4_no ∈ gw := gw_at 768 (by decide +kernel) rfl
theorem seX4_no : Cond.selects (yX4_no).cls yX4_no yX4_no ∈ gw := gw_at 32 (by decide +kernel) rfl
theorem lkX4_60 : LkV RX4 60 yX4_no cX4_no 2 (some .int) 1 := ⟨mlX4_60, imX4_no, seX4_no, ldX4_no⟩
theorem flX4_64 : Cond.fieldLink RX4 64 "HigherMoreLeftModel" "place" "I" ∈ gw := gw_at 692 (by decide +kernel) rfl
theorem flX4_86 : Cond.fieldLink RX4 86 "HigherMoreLeftModel" "statements" "I" ∈ gw := gw_at 693 (by decide +kernel) rfl
theorem flX4_132 : Cond.fieldLink RX4 132 "HigherMoreLeftModel" "cursor" "I" ∈ gw := gw_at 697 (by decide +kernel) rfl
theorem flX4_128 : Cond.fieldLink RX4 128 "HigherMoreLeftModel" "isKeeping" "Z" ∈ gw := gw_at 696 (by decide +kernel) rfl
theorem flX4_13 : Cond.fieldLink RX4 13 "HigherMoreLeftModel" "sore" "[I" ∈ gw := gw_at 681 (by decide +kernel) rfl
theorem flX4_31 : Cond.fieldLink RX4 31 "HigherMoreLeftModel" "kept" "[I" ∈ gw := gw_at 694 (by decide +kernel) rfl
theorem cdX4_passes : Cond.code yX4_passes cX4_passes 3 none ∈ gw := gw_at 807 (by decide +kernel) rfl
theorem ldX4_passes : LkD yX4_passes cX4_passes 3 none 1 := ⟨iniX4, cdX4_passes, by decide +kernel, by decide +kernel, by decide +kernel⟩
theorem mlX4_135 : Cond.methodLink RX4 135 yX4_passes ∈ gw := gw_at 804 (by decide +kernel) rfl
theorem imX4_passes : Cond.instanceMethod yX4_passes ∈ gw := gw_at 806 (by decide +kernel) rfl
theorem seX4_passes : Cond.selects (yX4_passes).cls yX4_passes yX4_passes ∈ gw := gw_at 39 (by decide +kernel) rfl
theorem lkX4_135 : LkV RX4 135 yX4_passes cX4_passes 3 none 1 := ⟨mlX4_135, imX4_passes, seX4_passes, ldX4_passes⟩
theorem flX4_16 : Cond.fieldLink RX4 16 "HigherMoreLeftModel" "he" "[I" ∈ gw := gw_at 682 (by decide +kernel) rfl
theorem flX4_98 : Cond.fieldLink RX4 98 "HigherMoreLeftModel" "sort" "I" ∈ gw := gw_at 683 (by decide +kernel) rfl
theorem cdX4_passOne : Cond.code yX4_passOne cX4_passOne 3 (some .int) ∈ gw := gw_at 811 (by decide +kernel) rfl
theorem ldX4_passOne : LkD yX4_passOne cX4_passOne 3 (some .int) 1 := ⟨iniX4, cdX4_passOne, by decide +kernel, by decide +kernel, by decide +kernel⟩
theorem mlX4_139 : Cond.methodLink RX4 139 yX4_passOne ∈ gw := gw_at 808 (by decide +kernel) rfl
theorem imX4_passOne : Cond.instanceMethod yX4_passOne ∈ gw := gw_at 810 (by decide +kernel) rfl
theorem seX4_passOne : Cond.selects (yX4_passOne).cls yX4_passOne yX4_passOne ∈ gw := gw_at 40 (by decide +kernel) rfl
theorem lkX4_139 : LkV RX4 139 yX4_passOne cX4_passOne 3 (some .int) 1 := ⟨mlX4_139, imX4_passOne, seX4_passOne, ldX4_passOne⟩
theorem flX4_101 : Cond.fieldLink RX4 101 "HigherMoreLeftModel" "at" "I" ∈ gw := gw_at 684 (by decide +kernel) rfl
theorem flX4_142 : Cond.fieldLink RX4 142 "HigherMoreLeftModel" "hand" "I" ∈ gw := gw_at 685 (by decide +kernel) rfl
theorem flX4_110 : Cond.fieldLink RX4 110 "HigherMoreLeftModel" "time" "I" ∈ gw := gw_at 686 (by decide +kernel) rfl
theorem cdX4_passesAll : Cond.code yX4_passesAll cX4_passesAll 3 none ∈ gw := gw_at 803 (by decide +kernel) rfl
theorem ldX4_passesAll : LkD yX4_passesAll cX4_passesAll 3 none 2 := ⟨iniX4, cdX4_passesAll, by decide +kernel, by decide +kernel, by decide +kernel⟩
theorem mlX4_121 : Cond.methodLink RX4 121 yX4_passesAll ∈ gw := gw_at 800 (by decide +kernel) rfl
theorem imX4_passesAll : Cond.instanceMethod yX4_passesAll ∈ gw := gw_at 802 (by decide +kernel) rfl
theorem seX4_passesAll : Cond.selects (yX4_passesAll).cls yX4_passesAll yX4_passesAll ∈ gw := gw_at 38 (by decide +kernel) rfl
theorem lkX4_121 : LkV RX4 121 yX4_passesAll cX4_passesAll 3 none 2 := ⟨mlX4_121, imX4_passesAll, seX4_passesAll, ldX4_passesAll⟩
theorem flX4_22 : Cond.fieldLink RX4 22 "HigherMoreLeftModel" "letter" "[I" ∈ gw := gw_at 688 (by decide +kernel) rfl
theorem flX4_28 : Cond.fieldLink RX4 28 "HigherMoreLeftModel" "told" "[I" ∈ gw := gw_at 690 (by decide +kernel) rfl
theorem cdX4_leastOf : Cond.code yX4_leastOf cX4_leastOf 1 (some .int) ∈ gw := gw_at 825 (by decide +kernel) rfl
theorem ldX4_leastOf : LkD yX4_leastOf cX4_leastOf 1 (some .int) 1 := ⟨iniX4, cdX4_leastOf, by decide +kernel, by decide +kernel, by decide +kernel⟩
theorem mlX4_92 : Cond.methodLink RX4 92 yX4_leastOf ∈ gw := gw_at 823 (by decide +kernel) rfl
theorem smX4_leastOf : Cond.static yX4_leastOf ∈ gw := gw_at 824 (by decide +kernel) rfl
theorem lkX4_92 : LkS RX4 92 yX4_leastOf cX4_leastOf 1 (some .int) 1 := ⟨mlX4_92, smX4_leastOf, ldX4_leastOf⟩
theorem cdX4_mostOf : Cond.code yX4_mostOf cX4_mostOf 1 (some .int) ∈ gw := gw_at 828 (by decide +kernel) rfl
theorem ldX4_mostOf : LkD yX4_mostOf cX4_mostOf 1 (some .int) 1 := ⟨iniX4, cdX4_mostOf, by decide +kernel, by decide +kernel, by decide +kernel⟩
theorem mlX4_95 : Cond.methodLink RX4 95 yX4_mostOf ∈ gw := gw_at 826 (by decide +kernel) rfl
theorem smX4_mostOf : Cond.static yX4_mostOf ∈ gw := gw_at 827 (by decide +kernel) rfl
theorem lkX4_95 : LkS RX4 95 yX4_mostOf cX4_mostOf 1 (some .int) 1 := ⟨mlX4_95, smX4_mostOf, ldX4_mostOf⟩
theorem cdX4_comesHe : Cond.code yX4_comesHe cX4_comesHe 3 (some .boolean) ∈ gw := gw_at 822 (by decide +kernel) rfl
theorem ldX4_comesHe : LkD yX4_comesHe cX4_comesHe 3 (some .boolean) 1 := ⟨iniX4, cdX4_comesHe, by decide +kernel, by decide +kernel, by decide +kernel⟩
theorem mlX4_107 : Cond.methodLink RX4 107 yX4_comesHe ∈ gw := gw_at 819 (by decide +kernel) rfl
theorem imX4_comesHe : Cond.instanceMethod yX4_comesHe ∈ gw := gw_at 821 (by decide +kernel) rfl
theorem seX4_comesHe : Cond.selects (yX4_comesHe).cls yX4_comesHe yX4_comesHe ∈ gw := gw_at 42 (by decide +kernel) rfl
theorem lkX4_107 : LkV RX4 107 yX4_comesHe cX4_comesHe 3 (some .boolean) 1 := ⟨mlX4_107, imX4_comesHe, seX4_comesHe, ldX4_comesHe⟩
theorem cdX4_isCell : Cond.code yX4_isCell cX4_isCell 1 (some .boolean) ∈ gw := gw_at 818 (by decide +kernel) rfl
theorem ldX4_isCell : LkD yX4_isCell cX4_isCell 1 (some .boolean) 1 := ⟨iniX4, cdX4_isCell, by decide +kernel, by decide +kernel, by decide +kernel⟩
theorem mlX4_104 : Cond.methodLink RX4 104 yX4_isCell ∈ gw := gw_at 816 (by decide +kernel) rfl
theorem smX4_isCell : Cond.static yX4_isCell ∈ gw := gw_at 817 (by decide +kernel) rfl
theorem lkX4_104 : LkS RX4 104 yX4_isCell cX4_isCell 1 (some .boolean) 1 := ⟨mlX4_104, smX4_isCell, ldX4_isCell⟩
theorem cdX4_apart : Cond.code yX4_apart cX4_apart 2 (some .int) ∈ gw := gw_at 851 (by decide +kernel) rfl
theorem ldX4_apart : LkD yX4_apart cX4_apart 2 (some .int) 2 := ⟨iniX4, cdX4_apart, by decide +kernel, by decide +kernel, by decide +kernel⟩
theorem mlX4_48 : Cond.methodLink RX4 48 yX4_apart ∈ gw := gw_at 849 (by decide +kernel) rfl
theorem smX4_apart : Cond.static yX4_apart ∈ gw := gw_at 850 (by decide +kernel) rfl
theorem lkX4_48 : LkS RX4 48 yX4_apart cX4_apart 2 (some .int) 2 := ⟨mlX4_48, smX4_apart, ldX4_apart⟩
theorem cdX4_isIn : Cond.code yX4_isIn cX4_isIn 3 (some .boolean) ∈ gw := gw_at 799 (by decide +kernel) rfl
theorem ldX4_isIn : LkD yX4_isIn cX4_isIn 3 (some .boolean) 3 := ⟨iniX4, cdX4_isIn, by decide +kernel, by decide +kernel, by decide +kernel⟩
theorem mlX4_71 : Cond.methodLink RX4 71 yX4_isIn ∈ gw := gw_at 797 (by decide +kernel) rfl
theorem smX4_isIn : Cond.static yX4_isIn ∈ gw := gw_at 798 (by decide +kernel) rfl
theorem lkX4_71 : LkS RX4 71 yX4_isIn cX4_isIn 3 (some .boolean) 3 := ⟨mlX4_71, smX4_isIn, ldX4_isIn⟩
theorem cdX4_plainBeside : Cond.code yX4_plainBeside cX4_plainBeside 2 (some .int) ∈ gw := gw_at 848 (by decide +kernel) rfl
theorem ldX4_plainBeside : LkD yX4_plainBeside cX4_plainBeside 2 (some .int) 0 := ⟨iniX4, cdX4_plainBeside, by decide +kernel, by decide +kernel, by decide +kernel⟩
theorem mlX4_148 : Cond.methodLink RX4 148 yX4_plainBeside ∈ gw := gw_at 845 (by decide +kernel) rfl
theorem imX4_plainBeside : Cond.instanceMethod yX4_plainBeside ∈ gw := gw_at 847 (by decide +kernel) rfl
theorem seX4_plainBeside : Cond.selects (yX4_plainBeside).cls yX4_plainBeside yX4_plainBeside ∈ gw := gw_at 47 (by decide +kernel) rfl
theorem lkX4_148 : LkV RX4 148 yX4_plainBeside cX4_plainBeside 2 (some .int) 0 := ⟨mlX4_148, imX4_plainBeside, seX4_plainBeside, ldX4_plainBeside⟩
theorem cdX4_creepsBeside : Cond.code yX4_creepsBeside cX4_creepsBeside 1 (some .int) ∈ gw := gw_at 844 (by decide +kernel) rfl
theorem ldX4_creepsBeside : LkD yX4_creepsBeside cX4_creepsBeside 1 (some .int) 0 := ⟨iniX4, cdX4_creepsBeside, by decide +kernel, by decide +kernel, by decide +kernel⟩
theorem mlX4_151 : Cond.methodLink RX4 151 yX4_creepsBeside ∈ gw := gw_at 841 (by decide +kernel) rfl
theorem imX4_creepsBeside : Cond.instanceMethod yX4_creepsBeside ∈ gw := gw_at 843 (by decide +kernel) rfl
theorem seX4_creepsBeside : Cond.selects (yX4_creepsBeside).cls yX4_creepsBeside yX4_creepsBeside ∈ gw := gw_at 46 (by decide +kernel) rfl
theorem lkX4_151 : LkV RX4 151 yX4_creepsBeside cX4_creepsBeside 1 (some .int) 0 := ⟨mlX4_151, imX4_creepsBeside, seX4_creepsBeside, ldX4_creepsBeside⟩
theorem cdX4_leapsBeside : Cond.code yX4_leapsBeside cX4_leapsBeside 3 (some .int) ∈ gw := gw_at 855 (by decide +kernel) rfl
theorem ldX4_leapsBeside : LkD yX4_leapsBeside cX4_leapsBeside 3 (some .int) 0 := ⟨iniX4, cdX4_leapsBeside, by decide +kernel, by decide +kernel, by decide +kernel⟩
theorem mlX4_154 : Cond.methodLink RX4 154 yX4_leapsBeside ∈ gw := gw_at 852 (by decide +kernel) rfl
theorem imX4_leapsBeside : Cond.instanceMethod yX4_leapsBeside ∈ gw := gw_at 854 (by decide +kernel) rfl
theorem seX4_leapsBeside : Cond.selects (yX4_leapsBeside).cls yX4_leapsBeside yX4_leapsBeside ∈ gw := gw_at 48 (by decide +kernel) rfl
theorem lkX4_154 : LkV RX4 154 yX4_leapsBeside cX4_leapsBeside 3 (some .int) 0 := ⟨mlX4_154, imX4_leapsBeside, seX4_leapsBeside, ldX4_leapsBeside⟩
theorem cdX4_besideBy : Cond.code yX4_besideBy cX4_besideBy 1 (some .int) ∈ gw := gw_at 840 (by decide +kernel) rfl
theorem ldX4_besideBy : LkD yX4_besideBy cX4_besideBy 1 (some .int) 0 := ⟨iniX4, cdX4_besideBy, by decide +kernel, by decide +kernel, by decide +kernel⟩
theorem mlX4_160 : Cond.methodLink RX4 160 yX4_besideBy ∈ gw := gw_at 837 (by decide +kernel) rfl
theorem imX4_besideBy : Cond.instanceMethod yX4_besideBy ∈ gw := gw_at 839 (by decide +kernel) rfl
theorem seX4_besideBy : Cond.selects (yX4_besideBy).cls yX4_besideBy yX4_besideBy ∈ gw := gw_at 45 (by decide +kernel) rfl
theorem lkX4_160 : LkV RX4 160 yX4_besideBy cX4_besideBy 1 (some .int) 0 := ⟨mlX4_160, imX4_besideBy, seX4_besideBy, ldX4_besideBy⟩
theorem cdX4_struckBy : Cond.code yX4_struckBy cX4_struckBy 1 (some .int) ∈ gw := gw_at 836 (by decide +kernel) rfl
theorem ldX4_struckBy : LkD yX4_struckBy cX4_struckBy 1 (some .int) 0 := ⟨iniX4, cdX4_struckBy, by decide +kernel, by decide +kernel, by decide +kernel⟩
theorem mlX4_157 : Cond.methodLink RX4 157 yX4_struckBy ∈ gw := gw_at 833 (by decide +kernel) rfl
theorem imX4_struckBy : Cond.instanceMethod yX4_struckBy ∈ gw := gw_at 835 (by decide +kernel) rfl
theorem seX4_struckBy : Cond.selects (yX4_struckBy).cls yX4_struckBy yX4_struckBy ∈ gw := gw_at 44 (by decide +kernel) rfl
theorem lkX4_157 : LkV RX4 157 yX4_struckBy cX4_struckBy 1 (some .int) 0 := ⟨mlX4_157, imX4_struckBy, seX4_struckBy, ldX4_struckBy⟩
theorem cdX4_strokes : Cond.code yX4_strokes cX4_strokes 2 none ∈ gw := gw_at 832 (by decide +kernel) rfl
theorem ldX4_strokes : LkD yX4_strokes cX4_strokes 2 none 1 := ⟨iniX4, cdX4_strokes, by decide +kernel, by decide +kernel, by decide +kernel⟩
theorem mlX4_113 : Cond.methodLink RX4 113 yX4_strokes ∈ gw := gw_at 829 (by decide +kernel) rfl
theorem imX4_strokes : Cond.instanceMethod yX4_strokes ∈ gw := gw_at 831 (by decide +kernel) rfl
theorem seX4_strokes : Cond.selects (yX4_strokes).cls yX4_strokes yX4_strokes ∈ gw := gw_at 43 (by decide +kernel) rfl
theorem lkX4_113 : LkV RX4 113 yX4_strokes cX4_strokes 2 none 1 := ⟨mlX4_113, imX4_strokes, seX4_strokes, ldX4_strokes⟩
theorem cdX4_comes : Cond.code yX4_comes cX4_comes 3 (some .boolean) ∈ gw := gw_at 815 (by decide +kernel) rfl
theorem ldX4_comes : LkD yX4_comes cX4_comes 3 (some .boolean) 1 := ⟨iniX4, cdX4_comes, by decide +kernel, by decide +kernel, by decide +kernel⟩
theorem mlX4_125 : Cond.methodLink RX4 125 yX4_comes ∈ gw := gw_at 812 (by decide +kernel) rfl
theorem imX4_comes : Cond.instanceMethod yX4_comes ∈ gw := gw_at 814 (by decide +kernel) rfl
theorem seX4_comes : Cond.selects (yX4_comes).cls yX4_comes yX4_comes ∈ gw := gw_at 41 (by decide +kernel) rfl
theorem lkX4_125 : LkV RX4 125 yX4_comes cX4_comes 3 (some .boolean) 1 := ⟨mlX4_125, imX4_comes, seX4_comes, ldX4_comes⟩
theorem flX4_25 : Cond.fieldLink RX4 25 "HigherMoreLeftModel" "letterAt" "[I" ∈ gw := gw_at 689 (by decide +kernel) rfl
theorem cdX4_next : Cond.code yX4_next cX4_next 1 (some .int) ∈ gw := gw_at 781 (by decide +kernel) rfl
theorem ldX4_next : LkD yX4_next cX4_next 1 (some .int) 0 := ⟨iniX4, cdX4_next, by decide +kernel, by decide +kernel, by decide +kernel⟩
theorem mlX4_67 : Cond.methodLink RX4 67 yX4_next ∈ gw := gw_at 778 (by decide +kernel) rfl
theorem imX4_next : Cond.instanceMethod yX4_next ∈ gw := gw_at 780 (by decide +kernel) rfl
theorem seX4_next : Cond.selects (yX4_next).cls yX4_next yX4_next ∈ gw := gw_at 34 (by decide +kernel) rfl
theorem lkX4_67 : LkV RX4 67 yX4_next cX4_next 1 (some .int) 0 := ⟨mlX4_67, imX4_next, seX4_next, ldX4_next⟩
theorem cdX4_readsDigits : Cond.code yX4_readsDigits cX4_readsDigits 5 (some .boolean) ∈ gw := gw_at 796 (by decide +kernel) rfl
theorem ldX4_readsDigits : LkD yX4_readsDigits cX4_readsDigits 5 (some .boolean) 2 := ⟨iniX4, cdX4_readsDigits, by decide +kernel, by decide +kernel, by decide +kernel⟩
theorem mlX4_78 : Cond.methodLink RX4 78 yX4_readsDigits ∈ gw := gw_at 793 (by decide +kernel) rfl
theorem imX4_readsDigits : Cond.instanceMethod yX4_readsDigits ∈ gw := gw_at 795 (by decide +kernel) rfl
theorem seX4_readsDigits : Cond.selects (yX4_readsDigits).cls yX4_readsDigits yX4_readsDigits ∈ gw := gw_at 37 (by decide +kernel) rfl
theorem lkX4_78 : LkV RX4 78 yX4_readsDigits cX4_readsDigits 5 (some .boolean) 2 := ⟨mlX4_78, imX4_readsDigits, seX4_readsDigits, ldX4_readsDigits⟩
theorem cdX4_kindOf : Cond.code yX4_kindOf cX4_kindOf 1 (some .int) ∈ gw := gw_at 792 (by decide +kernel) rfl
theorem ldX4_kindOf : LkD yX4_kindOf cX4_kindOf 1 (some .int) 1 := ⟨iniX4, cdX4_kindOf, by decide +kernel, by decide +kernel, by decide +kernel⟩
theorem mlX4_75 : Cond.methodLink RX4 75 yX4_kindOf ∈ gw := gw_at 790 (by decide +kernel) rfl
theorem smX4_kindOf : Cond.static yX4_kindOf ∈ gw := gw_at 791 (by decide +kernel) rfl
theorem lkX4_75 : LkS RX4 75 yX4_kindOf cX4_kindOf 1 (some .int) 1 := ⟨mlX4_75, smX4_kindOf, ldX4_kindOf⟩
theorem cdX4_readsItch : Cond.code yX4_readsItch cX4_readsItch 2 (some .boolean) ∈ gw := gw_at 789 (by decide +kernel) rfl
theorem ldX4_readsItch : LkD yX4_readsItch cX4_readsItch 2 (some .boolean) 1 := ⟨iniX4, cdX4_readsItch, by decide +kernel, by decide +kernel, by decide +kernel⟩
theorem mlX4_82 : Cond.methodLink RX4 82 yX4_readsItch ∈ gw := gw_at 786 (by decide +kernel) rfl
theorem imX4_readsItch : Cond.instanceMethod yX4_readsItch ∈ gw := gw_at 788 (by decide +kernel) rfl
theorem seX4_readsItch : Cond.selects (yX4_readsItch).cls yX4_readsItch yX4_readsItch ∈ gw := gw_at 36 (by decide +kernel) rfl
theorem lkX4_82 : LkV RX4 82 yX4_readsItch cX4_readsItch 2 (some .boolean) 1 := ⟨mlX4_82, imX4_readsItch, seX4_readsItch, ldX4_readsItch⟩
theorem cdX4_readsAll : Cond.code yX4_readsAll cX4_readsAll 3 (some .boolean) ∈ gw := gw_at 785 (by decide +kernel) rfl
theorem ldX4_readsAll : LkD yX4_readsAll cX4_readsAll 3 (some .boolean) 2 := ⟨iniX4, cdX4_readsAll, by decide +kernel, by decide +kernel, by decide +kernel⟩
theorem mlX4_89 : Cond.methodLink RX4 89 yX4_readsAll ∈ gw := gw_at 782 (by decide +kernel) rfl
theorem imX4_readsAll : Cond.instanceMethod yX4_readsAll ∈ gw := gw_at 784 (by decide +kernel) rfl
theorem seX4_readsAll : Cond.selects (yX4_readsAll).cls yX4_readsAll yX4_readsAll ∈ gw := gw_at 35 (by decide +kernel) rfl
theorem lkX4_89 : LkV RX4 89 yX4_readsAll cX4_readsAll 3 (some .boolean) 2 := ⟨mlX4_89, imX4_readsAll, seX4_readsAll, ldX4_readsAll⟩
theorem cdX4_statement : Cond.code yX4_statement cX4_statement 2 (some .boolean) ∈ gw := gw_at 777 (by decide +kernel) rfl
theorem ldX4_statement : LkD yX4_statement cX4_statement 2 (some .boolean) 0 := ⟨iniX4, cdX4_statement, by decide +kernel, by decide +kernel, by decide +kernel⟩
theorem mlX4_117 : Cond.methodLink RX4 117 yX4_statement ∈ gw := gw_at 774 (by decide +kernel) rfl
theorem imX4_statement : Cond.instanceMethod yX4_statement ∈ gw := gw_at 776 (by decide +kernel) rfl
theorem seX4_statement : Cond.selects (yX4_statement).cls yX4_statement yX4_statement ∈ gw := gw_at 33 (by decide +kernel) rfl
theorem lkX4_117 : LkV RX4 117 yX4_statement cX4_statement 2 (some .boolean) 0 := ⟨mlX4_117, imX4_statement, seX4_statement, ldX4_statement⟩
theorem cdX4_farOf : Cond.code yX4_farOf cX4_farOf 2 (some .int) ∈ gw := gw_at 890 (by decide +kernel) rfl
theorem ldX4_farOf : LkD yX4_farOf cX4_farOf 2 (some .int) 2 := ⟨iniX4, cdX4_farOf, by decide +kernel, by decide +kernel, by decide +kernel⟩
theorem mlX4_167 : Cond.methodLink RX4 167 yX4_farOf ∈ gw := gw_at 888 (by decide +kernel) rfl
theorem smX4_farOf : Cond.static yX4_farOf ∈ gw := gw_at 889 (by decide +kernel) rfl
theorem lkX4_167 : LkS RX4 167 yX4_farOf cX4_farOf 2 (some .int) 2 := ⟨mlX4_167, smX4_farOf, ldX4_farOf⟩
theorem cdX4_wordBy : Cond.code yX4_wordBy cX4_wordBy 8 (some .int) ∈ gw := gw_at 902 (by decide +kernel) rfl
theorem ldX4_wordBy : LkD yX4_wordBy cX4_wordBy 8 (some .int) 4 := ⟨iniX4, cdX4_wordBy, by decide +kernel, by decide +kernel, by decide +kernel⟩
theorem mlX4_163 : Cond.methodLink RX4 163 yX4_wordBy ∈ gw := gw_at 899 (by decide +kernel) rfl
theorem imX4_wordBy : Cond.instanceMethod yX4_wordBy ∈ gw := gw_at 901 (by decide +kernel) rfl
theorem seX4_wordBy : Cond.selects (yX4_wordBy).cls yX4_wordBy yX4_wordBy ∈ gw := gw_at 50 (by decide +kernel) rfl
theorem lkX4_163 : LkV RX4 163 yX4_wordBy cX4_wordBy 8 (some .int) 4 := ⟨mlX4_163, imX4_wordBy, seX4_wordBy, ldX4_wordBy⟩
theorem cdX4_wordFrom : Cond.code yX4_wordFrom cX4_wordFrom 3 (some .int) ∈ gw := gw_at 898 (by decide +kernel) rfl
theorem ldX4_wordFrom : LkD yX4_wordFrom cX4_wordFrom 3 (some .int) 2 := ⟨iniX4, cdX4_wordFrom, by decide +kernel, by decide +kernel, by decide +kernel⟩
theorem mlX4_170 : Cond.methodLink RX4 170 yX4_wordFrom ∈ gw := gw_at 895 (by decide +kernel) rfl
theorem imX4_wordFrom : Cond.instanceMethod yX4_wordFrom ∈ gw := gw_at 897 (by decide +kernel) rfl
theorem seX4_wordFrom : Cond.selects (yX4_wordFrom).cls yX4_wordFrom yX4_wordFrom ∈ gw := gw_at 49 (by decide +kernel) rfl
theorem lkX4_170 : LkV RX4 170 yX4_wordFrom cX4_wordFrom 3 (some .int) 2 := ⟨mlX4_170, imX4_wordFrom, seX4_wordFrom, ldX4_wordFrom⟩
theorem cdX4_held : Cond.code yX4_held cX4_held 3 (some .int) ∈ gw := gw_at 921 (by decide +kernel) rfl
theorem ldX4_held : LkD yX4_held cX4_held 3 (some .int) 3 := ⟨iniX4, cdX4_held, by decide +kernel, by decide +kernel, by decide +kernel⟩
theorem mlX4_173 : Cond.methodLink RX4 173 yX4_held ∈ gw := gw_at 919 (by decide +kernel) rfl
theorem smX4_held : Cond.static yX4_held ∈ gw := gw_at 920 (by decide +kernel) rfl
theorem lkX4_173 : LkS RX4 173 yX4_held cX4_held 3 (some .int) 3 := ⟨mlX4_173, smX4_held, ldX4_held⟩
theorem cdX4_readBy : Cond.code yX4_readBy cX4_readBy 8 (some .int) ∈ gw := gw_at 918 (by decide +kernel) rfl
theorem ldX4_readBy : LkD yX4_readBy cX4_readBy 8 (some .int) 3 := ⟨iniX4, cdX4_readBy, by decide +kernel, by decide +kernel, by decide +kernel⟩
theorem mlX4_176 : Cond.methodLink RX4 176 yX4_readBy ∈ gw := gw_at 915 (by decide +kernel) rfl
theorem imX4_readBy : Cond.instanceMethod yX4_readBy ∈ gw := gw_at 917 (by decide +kernel) rfl
theorem seX4_readBy : Cond.selects (yX4_readBy).cls yX4_readBy yX4_readBy ∈ gw := gw_at 51 (by decide +kernel) rfl
theorem lkX4_176 : LkV RX4 176 yX4_readBy cX4_readBy 8 (some .int) 3 := ⟨mlX4_176, imX4_readBy, seX4_readBy, ldX4_readBy⟩
theorem cdX4_followBy : Cond.code yX4_followBy cX4_followBy 4 (some .int) ∈ gw := gw_at 929 (by decide +kernel) rfl
theorem ldX4_followBy : LkD yX4_followBy cX4_followBy 4 (some .int) 1 := ⟨iniX4, cdX4_followBy, by decide +kernel, by decide +kernel, by decide +kernel⟩
theorem mlX4_179 : Cond.methodLink RX4 179 yX4_followBy ∈ gw := gw_at 926 (by decide +kernel) rfl
theorem imX4_followBy : Cond.instanceMethod yX4_followBy ∈ gw := gw_at 928 (by decide +kernel) rfl
theorem seX4_followBy : Cond.selects (yX4_followBy).cls yX4_followBy yX4_followBy ∈ gw := gw_at 52 (by decide +kernel) rfl
theorem lkX4_179 : LkV RX4 179 yX4_followBy cX4_followBy 4 (some .int) 1 := ⟨mlX4_179, imX4_followBy, seX4_followBy, ldX4_followBy⟩
theorem clX4_46 : Cond.constantLong RX4 46 4000000000000000000 ∈ gw := gw_at 938 (by decide +kernel) rfl
theorem cdX4_lowest : Cond.code yX4_lowest cX4_lowest 2 (some .long) ∈ gw := gw_at 937 (by decide +kernel) rfl
theorem ldX4_lowest : LkD yX4_lowest cX4_lowest 2 (some .long) 1 := ⟨iniX4, cdX4_lowest, by decide +kernel, by decide +kernel, by decide +kernel⟩
theorem mlX4_195 : Cond.methodLink RX4 195 yX4_lowest ∈ gw := gw_at 934 (by decide +kernel) rfl
theorem imX4_lowest : Cond.instanceMethod yX4_lowest ∈ gw := gw_at 936 (by decide +kernel) rfl
theorem seX4_lowest : Cond.selects (yX4_lowest).cls yX4_lowest yX4_lowest ∈ gw := gw_at 53 (by decide +kernel) rfl
theorem lkX4_195 : LkV RX4 195 yX4_lowest cX4_lowest 2 (some .long) 1 := ⟨mlX4_195, imX4_lowest, seX4_lowest, ldX4_lowest⟩
theorem flX4_182 : Cond.fieldLink RX4 182 "HigherMoreLeftModel" "meanSum" "I" ∈ gw := gw_at 698 (by decide +kernel) rfl
theorem flX4_185 : Cond.fieldLink RX4 185 "HigherMoreLeftModel" "hardestCell" "I" ∈ gw := gw_at 699 (by decide +kernel) rfl
theorem cdX4_orElse : Cond.code yX4_orElse cX4_orElse 2 (some .int) ∈ gw := gw_at 945 (by decide +kernel) rfl
theorem ldX4_orElse : LkD yX4_orElse cX4_orElse 2 (some .int) 2 := ⟨iniX4, cdX4_orElse, by decide +kernel, by decide +kernel, by decide +kernel⟩
theorem mlX4_188 : Cond.methodLink RX4 188 yX4_orElse ∈ gw := gw_at 943 (by decide +kernel) rfl
theorem smX4_orElse : Cond.static yX4_orElse ∈ gw := gw_at 944 (by decide +kernel) rfl
theorem lkX4_188 : LkS RX4 188 yX4_orElse cX4_orElse 2 (some .int) 2 := ⟨mlX4_188, smX4_orElse, ldX4_orElse⟩
theorem cdX4_goesAll : Cond.code yX4_goesAll cX4_goesAll 6 none ∈ gw := gw_at 942 (by decide +kernel) rfl
theorem ldX4_goesAll : LkD yX4_goesAll cX4_goesAll 6 none 1 := ⟨iniX4, cdX4_goesAll, by decide +kernel, by decide +kernel, by decide +kernel⟩
theorem mlX4_199 : Cond.methodLink RX4 199 yX4_goesAll ∈ gw := gw_at 939 (by decide +kernel) rfl
theorem imX4_goesAll : Cond.instanceMethod yX4_goesAll ∈ gw := gw_at 941 (by decide +kernel) rfl
theorem seX4_goesAll : Cond.selects (yX4_goesAll).cls yX4_goesAll yX4_goesAll ∈ gw := gw_at 54 (by decide +kernel) rfl
theorem lkX4_199 : LkV RX4 199 yX4_goesAll cX4_goesAll 6 none 1 := ⟨mlX4_199, imX4_goesAll, seX4_goesAll, ldX4_goesAll⟩
theorem clX4_202 : Cond.constantLong RX4 202 24 ∈ gw := gw_at 946 (by decide +kernel) rfl
theorem cdX4_divisor : Cond.code yX4_divisor cX4_divisor 10 (some .long) ∈ gw := gw_at 952 (by decide +kernel) rfl
theorem ldX4_divisor : LkD yX4_divisor cX4_divisor 10 (some .long) 2 := ⟨iniX4, cdX4_divisor, by decide +kernel, by decide +kernel, by decide +kernel⟩
theorem mlX4_191 : Cond.methodLink RX4 191 yX4_divisor ∈ gw := gw_at 950 (by decide +kernel) rfl
theorem smX4_divisor : Cond.static yX4_divisor ∈ gw := gw_at 951 (by decide +kernel) rfl
theorem lkX4_191 : LkS RX4 191 yX4_divisor cX4_divisor 10 (some .long) 2 := ⟨mlX4_191, smX4_divisor, ldX4_divisor⟩
theorem cdX4_partOf : Cond.code yX4_partOf cX4_partOf 5 (some .long) ∈ gw := gw_at 949 (by decide +kernel) rfl
theorem ldX4_partOf : LkD yX4_partOf cX4_partOf 5 (some .long) 3 := ⟨iniX4, cdX4_partOf, by decide +kernel, by decide +kernel, by decide +kernel⟩
theorem mlX4_204 : Cond.methodLink RX4 204 yX4_partOf ∈ gw := gw_at 947 (by decide +kernel) rfl
theorem smX4_partOf : Cond.static yX4_partOf ∈ gw := gw_at 948 (by decide +kernel) rfl
theorem lkX4_204 : LkS RX4 204 yX4_partOf cX4_partOf 5 (some .long) 3 := ⟨mlX4_204, smX4_partOf, ldX4_partOf⟩
theorem flX4_208 : Cond.fieldLink RX4 208 "HigherMoreLeftModel" "sayings" "I" ∈ gw := gw_at 703 (by decide +kernel) rfl
theorem flX4_34 : Cond.fieldLink RX4 34 "HigherMoreLeftModel" "saidFrom" "[I" ∈ gw := gw_at 700 (by decide +kernel) rfl
theorem flX4_37 : Cond.fieldLink RX4 37 "HigherMoreLeftModel" "said" "[I" ∈ gw := gw_at 701 (by decide +kernel) rfl
theorem cdX4_rightBy : Cond.code yX4_rightBy cX4_rightBy 6 (some .int) ∈ gw := gw_at 980 (by decide +kernel) rfl
theorem ldX4_rightBy : LkD yX4_rightBy cX4_rightBy 6 (some .int) 3 := ⟨iniX4, cdX4_rightBy, by decide +kernel, by decide +kernel, by decide +kernel⟩
theorem mlX4_211 : Cond.methodLink RX4 211 yX4_rightBy ∈ gw := gw_at 977 (by decide +kernel) rfl
theorem imX4_rightBy : Cond.instanceMethod yX4_rightBy ∈ gw := gw_at 979 (by decide +kernel) rfl
theorem seX4_rightBy : Cond.selects (yX4_rightBy).cls yX4_rightBy yX4_rightBy ∈ gw := gw_at 56 (by decide +kernel) rfl
theorem lkX4_211 : LkV RX4 211 yX4_rightBy cX4_rightBy 6 (some .int) 3 := ⟨mlX4_211, imX4_rightBy, seX4_rightBy, ldX4_rightBy⟩
theorem cdX4_mayBy : Cond.code yX4_mayBy cX4_mayBy 5 (some .int) ∈ gw := gw_at 976 (by decide +kernel) rfl
theorem ldX4_mayBy : LkD yX4_mayBy cX4_mayBy 5 (some .int) 2 := ⟨iniX4, cdX4_mayBy, by decide +kernel, by decide +kernel, by decide +kernel⟩
theorem mlX4_214 : Cond.methodLink RX4 214 yX4_mayBy ∈ gw := gw_at 973 (by decide +kernel) rfl
theorem imX4_mayBy : Cond.instanceMethod yX4_mayBy ∈ gw := gw_at 975 (by decide +kernel) rfl
theorem seX4_mayBy : Cond.selects (yX4_mayBy).cls yX4_mayBy yX4_mayBy ∈ gw := gw_at 55 (by decide +kernel) rfl
theorem lkX4_214 : LkV RX4 214 yX4_mayBy cX4_mayBy 5 (some .int) 2 := ⟨mlX4_214, imX4_mayBy, seX4_mayBy, ldX4_mayBy⟩
theorem clX4_217 : Cond.constantLong RX4 217 72 ∈ gw := gw_at 993 (by decide +kernel) rfl
theorem cdX4_weightOf : Cond.code yX4_weightOf cX4_weightOf 5 (some .long) ∈ gw := gw_at 992 (by decide +kernel) rfl
theorem ldX4_weightOf : LkD yX4_weightOf cX4_weightOf 5 (some .long) 1 := ⟨iniX4, cdX4_weightOf, by decide +kernel, by decide +kernel, by decide +kernel⟩
theorem mlX4_219 : Cond.methodLink RX4 219 yX4_weightOf ∈ gw := gw_at 989 (by decide +kernel) rfl
theorem imX4_weightOf : Cond.instanceMethod yX4_weightOf ∈ gw := gw_at 991 (by decide +kernel) rfl
theorem seX4_weightOf : Cond.selects (yX4_weightOf).cls yX4_weightOf yX4_weightOf ∈ gw := gw_at 57 (by decide +kernel) rfl
theorem lkX4_219 : LkV RX4 219 yX4_weightOf cX4_weightOf 5 (some .long) 1 := ⟨mlX4_219, imX4_weightOf, seX4_weightOf, ldX4_weightOf⟩
theorem flX4_40 : Cond.fieldLink RX4 40 "HigherMoreLeftModel" "byWord" "[I" ∈ gw := gw_at 702 (by decide +kernel) rfl
theorem cdX4_worstFrom : Cond.code yX4_worstFrom cX4_worstFrom 6 (some .int) ∈ gw := gw_at 1001 (by decide +kernel) rfl
theorem ldX4_worstFrom : LkD yX4_worstFrom cX4_worstFrom 6 (some .int) 2 := ⟨iniX4, cdX4_worstFrom, by decide +kernel, by decide +kernel, by decide +kernel⟩
theorem mlX4_222 : Cond.methodLink RX4 222 yX4_worstFrom ∈ gw := gw_at 998 (by decide +kernel) rfl
theorem imX4_worstFrom : Cond.instanceMethod yX4_worstFrom ∈ gw := gw_at 1000 (by decide +kernel) rfl
theorem seX4_worstFrom : Cond.selects (yX4_worstFrom).cls yX4_worstFrom yX4_worstFrom ∈ gw := gw_at 58 (by decide +kernel) rfl
theorem lkX4_222 : LkV RX4 222 yX4_worstFrom cX4_worstFrom 6 (some .int) 2 := ⟨mlX4_222, imX4_worstFrom, seX4_worstFrom, ldX4_worstFrom⟩
theorem cdX4_stripBy : Cond.code yX4_stripBy cX4_stripBy 5 (some .int) ∈ gw := gw_at 1009 (by decide +kernel) rfl
theorem ldX4_stripBy : LkD yX4_stripBy cX4_stripBy 5 (some .int) 1 := ⟨iniX4, cdX4_stripBy, by decide +kernel, by decide +kernel, by decide +kernel⟩
theorem mlX4_225 : Cond.methodLink RX4 225 yX4_stripBy ∈ gw := gw_at 1006 (by decide +kernel) rfl
theorem imX4_stripBy : Cond.instanceMethod yX4_stripBy ∈ gw := gw_at 1008 (by decide +kernel) rfl
theorem seX4_stripBy : Cond.selects (yX4_stripBy).cls yX4_stripBy yX4_stripBy ∈ gw := gw_at 59 (by decide +kernel) rfl
theorem lkX4_225 : LkV RX4 225 yX4_stripBy cX4_stripBy 5 (some .int) 1 := ⟨mlX4_225, imX4_stripBy, seX4_stripBy, ldX4_stripBy⟩
theorem cdX4_doesGo : Cond.code yX4_doesGo cX4_doesGo 5 (some .boolean) ∈ gw := gw_at 1021 (by decide +kernel) rfl
theorem ldX4_doesGo : LkD yX4_doesGo cX4_doesGo 5 (some .boolean) 2 := ⟨iniX4, cdX4_doesGo, by decide +kernel, by decide +kernel, by decide +kernel⟩
theorem mlX4_228 : Cond.methodLink RX4 228 yX4_doesGo ∈ gw := gw_at 1018 (by decide +kernel) rfl
theorem imX4_doesGo : Cond.instanceMethod yX4_doesGo ∈ gw := gw_at 1020 (by decide +kernel) rfl
theorem seX4_doesGo : Cond.selects (yX4_doesGo).cls yX4_doesGo yX4_doesGo ∈ gw := gw_at 60 (by decide +kernel) rfl
theorem lkX4_228 : LkV RX4 228 yX4_doesGo cX4_doesGo 5 (some .boolean) 2 := ⟨mlX4_228, imX4_doesGo, seX4_doesGo, ldX4_doesGo⟩
theorem cdX4_soreAround : Cond.code yX4_soreAround cX4_soreAround 4 (some .int) ∈ gw := gw_at 1029 (by decide +kernel) rfl
theorem ldX4_soreAround : LkD yX4_soreAround cX4_soreAround 4 (some .int) 1 := ⟨iniX4, cdX4_soreAround, by decide +kernel, by decide +kernel, by decide +kernel⟩
theorem mlX4_231 : Cond.methodLink RX4 231 yX4_soreAround ∈ gw := gw_at 1026 (by decide +kernel) rfl
theorem imX4_soreAround : Cond.instanceMethod yX4_soreAround ∈ gw := gw_at 1028 (by decide +kernel) rfl
theorem seX4_soreAround : Cond.selects (yX4_soreAround).cls yX4_soreAround yX4_soreAround ∈ gw := gw_at 61 (by decide +kernel) rfl
theorem lkX4_231 : LkV RX4 231 yX4_soreAround cX4_soreAround 4 (some .int) 1 := ⟨mlX4_231, imX4_soreAround, seX4_soreAround, ldX4_soreAround⟩
theorem cdX4_boxOf : Cond.code yX4_boxOf cX4_boxOf 3 (some .int) ∈ gw := gw_at 1036 (by decide +kernel) rfl
theorem ldX4_boxOf : LkD yX4_boxOf cX4_boxOf 3 (some .int) 3 := ⟨iniX4, cdX4_boxOf, by decide +kernel, by decide +kernel, by decide +kernel⟩
theorem mlX4_234 : Cond.methodLink RX4 234 yX4_boxOf ∈ gw := gw_at 1034 (by decide +kernel) rfl
theorem smX4_boxOf : Cond.static yX4_boxOf ∈ gw := gw_at 1035 (by decide +kernel) rfl
theorem lkX4_234 : LkS RX4 234 yX4_boxOf cX4_boxOf 3 (some .int) 3 := ⟨mlX4_234, smX4_boxOf, ldX4_boxOf⟩
theorem flX4_43 : Cond.fieldLink RX4 43 "HigherMoreLeftModel" "row" "[I" ∈ gw := gw_at 704 (by decide +kernel) rfl
theorem flX4_237 : Cond.fieldLink RX4 237 "HigherMoreLeftModel" "rowMany" "I" ∈ gw := gw_at 705 (by decide +kernel) rfl
theorem cdX4_wrongBy : Cond.code yX4_wrongBy cX4_wrongBy 4 (some .int) ∈ gw := gw_at 1052 (by decide +kernel) rfl
theorem ldX4_wrongBy : LkD yX4_wrongBy cX4_wrongBy 4 (some .int) 1 := ⟨iniX4, cdX4_wrongBy, by decide +kernel, by decide +kernel, by decide +kernel⟩
theorem mlX4_240 : Cond.methodLink RX4 240 yX4_wrongBy ∈ gw := gw_at 1049 (by decide +kernel) rfl
theorem imX4_wrongBy : Cond.instanceMethod yX4_wrongBy ∈ gw := gw_at 1051 (by decide +kernel) rfl
theorem seX4_wrongBy : Cond.selects (yX4_wrongBy).cls yX4_wrongBy yX4_wrongBy ∈ gw := gw_at 62 (by decide +kernel) rfl
theorem lkX4_240 : LkV RX4 240 yX4_wrongBy cX4_wrongBy 4 (some .int) 1 := ⟨mlX4_240, imX4_wrongBy, seX4_wrongBy, ldX4_wrongBy⟩
theorem cnX4_243 : Cond.constant RX4 243 1664525 ∈ gw := gw_at 1061 (by decide +kernel) rfl
theorem cnX4_244 : Cond.constant RX4 244 1013904223 ∈ gw := gw_at 1062 (by decide +kernel) rfl
theorem cnX4_245 : Cond.constant RX4 245 2147483647 ∈ gw := gw_at 1063 (by decide +kernel) rfl
theorem flX4_145 : Cond.fieldLink RX4 145 "HigherMoreLeftModel" "hasImage" "Z" ∈ gw := gw_at 695 (by decide +kernel) rfl
theorem cdX3_letter : Cond.code yX3_letter cX3_letter 2 (some .int) ∈ gw := gw_at 203 (by decide +kernel) rfl
theorem ldX3_letter : LkD yX3_letter cX3_letter 2 (some .int) 1 := ⟨iniX3, cdX3_letter, by decide +kernel, by decide +kernel, by decide +kernel⟩
theorem mlL_13 : Cond.methodLink RL 13 yX3_letter ∈ gw := gw_at 200 (by decide +kernel) rfl
theorem imX3_letter : Cond.instanceMethod yX3_letter ∈ gw := gw_at 201 (by decide +kernel) rfl
theorem seX3_letter : Cond.selects (yX3_letter).cls yX3_letter yX3_letter ∈ gw := gw_at 202 (by decide +kernel) rfl
theorem lkL_13 : LkV RL 13 yX3_letter cX3_letter 2 (some .int) 1 := ⟨mlL_13, imX3_letter, seX3_letter, ldX3_letter⟩
theorem cdX4_letter : Cond.code yX4_letter cX4_letter 3 (some .int) ∈ gw := gw_at 762 (by decide +kernel) rfl
theorem ldX4_letter : LkD yX4_letter cX4_letter 3 (some .int) 1 := ⟨iniX4, cdX4_letter, by decide +kernel, by decide +kernel, by decide +kernel⟩
theorem mlL_17 : Cond.methodLink RL 17 yX4_letter ∈ gw := gw_at 759 (by decide +kernel) rfl
theorem imX4_letter : Cond.instanceMethod yX4_letter ∈ gw := gw_at 760 (by decide +kernel) rfl
theorem seX4_letter : Cond.selects (yX4_letter).cls yX4_letter yX4_letter ∈ gw := gw_at 761 (by decide +kernel) rfl
theorem lkL_17 : LkV RL 17 yX4_letter cX4_letter 3 (some .int) 1 := ⟨mlL_17, imX4_letter, seX4_letter, ldX4_letter⟩
theorem cdX3_back : Cond.code yX3_back cX3_back 2 (some .int) ∈ gw := gw_at 215 (by decide +kernel) rfl
theorem ldX3_back : LkD yX3_back cX3_back 2 (some .int) 0 := ⟨iniX3, cdX3_back, by decide +kernel, by decide +kernel, by decide +kernel⟩
theorem mlL_18 : Cond.methodLink RL 18 yX3_back ∈ gw := gw_at 212 (by decide +kernel) rfl
theorem imX3_back : Cond.instanceMethod yX3_back ∈ gw := gw_at 213 (by decide +kernel) rfl
theorem seX3_back : Cond.selects (yX3_back).cls yX3_back yX3_back ∈ gw := gw_at 214 (by decide +kernel) rfl
theorem lkL_18 : LkV RL 18 yX3_back cX3_back 2 (some .int) 0 := ⟨mlL_18, imX3_back, seX3_back, ldX3_back⟩
theorem cdX4_back : Cond.code yX4_back cX4_back 3 (some .int) ∈ gw := gw_at 773 (by decide +kernel) rfl
theorem ldX4_back : LkD yX4_back cX4_back 3 (some .int) 0 := ⟨iniX4, cdX4_back, by decide +kernel, by decide +kernel, by decide +kernel⟩
theorem mlL_22 : Cond.methodLink RL 22 yX4_back ∈ gw := gw_at 770 (by decide +kernel) rfl
theorem imX4_back : Cond.instanceMethod yX4_back ∈ gw := gw_at 771 (by decide +kernel) rfl
theorem seX4_back : Cond.selects (yX4_back).cls yX4_back yX4_back ∈ gw := gw_at 772 (by decide +kernel) rfl
theorem lkL_22 : LkV RL 22 yX4_back cX4_back 3 (some .int) 0 := ⟨mlL_22, imX4_back, seX4_back, ldX4_back⟩
theorem cdX3_itch : Cond.code yX3_itch cX3_itch 2 (some .int) ∈ gw := gw_at 427 (by decide +kernel) rfl
theorem ldX3_itch : LkD yX3_itch cX3_itch 2 (some .int) 1 := ⟨iniX3, cdX3_itch, by decide +kernel, by decide +kernel, by decide +kernel⟩
theorem mlL_23 : Cond.methodLink RL 23 yX3_itch ∈ gw := gw_at 424 (by decide +kernel) rfl
theorem imX3_itch : Cond.instanceMethod yX3_itch ∈ gw := gw_at 425 (by decide +kernel) rfl
theorem seX3_itch : Cond.selects (yX3_itch).cls yX3_itch yX3_itch ∈ gw := gw_at 426 (by decide +kernel) rfl
theorem lkL_23 : LkV RL 23 yX3_itch cX3_itch 2 (some .int) 1 := ⟨mlL_23, imX3_itch, seX3_itch, ldX3_itch⟩
theorem cdX4_itch : Cond.code yX4_itch cX4_itch 2 (some .int) ∈ gw := gw_at 867 (by decide +kernel) rfl
theorem ldX4_itch : LkD yX4_itch cX4_itch 2 (some .int) 1 := ⟨iniX4, cdX4_itch, by decide +kernel, by decide +kernel, by decide +kernel⟩
theorem mlL_26 : Cond.methodLink RL 26 yX4_itch ∈ gw := gw_at 864 (by decide +kernel) rfl
theorem imX4_itch : Cond.instanceMethod yX4_itch ∈ gw := gw_at 865 (by decide +kernel) rfl
theorem seX4_itch : Cond.selects (yX4_itch).cls yX4_itch yX4_itch ∈ gw := gw_at 866 (by decide +kernel) rfl
theorem lkL_26 : LkV RL 26 yX4_itch cX4_itch 2 (some .int) 1 := ⟨mlL_26, imX4_itch, seX4_itch, ldX4_itch⟩
theorem cdX3_sore : Cond.code yX3_sore cX3_sore 2 (some .int) ∈ gw := gw_at 432 (by decide +kernel) rfl
theorem ldX3_sore : LkD yX3_sore cX3_sore 2 (some .int) 1 := ⟨iniX3, cdX3_sore, by decide +kernel, by decide +kernel, by decide +kernel⟩
theorem mlL_27 : Cond.methodLink RL 27 yX3_sore ∈ gw := gw_at 429 (by decide +kernel) rfl
theorem imX3_sore : Cond.instanceMethod yX3_sore ∈ gw := gw_at 430 (by decide +kernel) rfl
theorem seX3_sore : Cond.selects (yX3_sore).cls yX3_sore yX3_sore ∈ gw := gw_at 431 (by decide +kernel) rfl
theorem lkL_27 : LkV RL 27 yX3_sore cX3_sore 2 (some .int) 1 := ⟨mlL_27, imX3_sore, seX3_sore, ldX3_sore⟩
theorem cdX4_sore : Cond.code yX4_sore cX4_sore 2 (some .int) ∈ gw := gw_at 871 (by decide +kernel) rfl
theorem ldX4_sore : LkD yX4_sore cX4_sore 2 (some .int) 1 := ⟨iniX4, cdX4_sore, by decide +kernel, by decide +kernel, by decide +kernel⟩
theorem mlL_30 : Cond.methodLink RL 30 yX4_sore ∈ gw := gw_at 868 (by decide +kernel) rfl
theorem imX4_sore : Cond.instanceMethod yX4_sore ∈ gw := gw_at 869 (by decide +kernel) rfl
theorem seX4_sore : Cond.selects (yX4_sore).cls yX4_sore yX4_sore ∈ gw := gw_at 870 (by decide +kernel) rfl
theorem lkL_30 : LkV RL 30 yX4_sore cX4_sore 2 (some .int) 1 := ⟨mlL_30, imX4_sore, seX4_sore, ldX4_sore⟩
theorem cdX3_heal : Cond.code yX3_heal cX3_heal 3 (some .int) ∈ gw := gw_at 438 (by decide +kernel) rfl
theorem ldX3_heal : LkD yX3_heal cX3_heal 3 (some .int) 1 := ⟨iniX3, cdX3_heal, by decide +kernel, by decide +kernel, by decide +kernel⟩
theorem mlL_31 : Cond.methodLink RL 31 yX3_heal ∈ gw := gw_at 435 (by decide +kernel) rfl
theorem imX3_heal : Cond.instanceMethod yX3_heal ∈ gw := gw_at 436 (by decide +kernel) rfl
theorem seX3_heal : Cond.selects (yX3_heal).cls yX3_heal yX3_heal ∈ gw := gw_at 437 (by decide +kernel) rfl
theorem lkL_31 : LkV RL 31 yX3_heal cX3_heal 3 (some .int) 1 := ⟨mlL_31, imX3_heal, seX3_heal, ldX3_heal⟩
theorem cdX4_heal : Cond.code yX4_heal cX4_heal 3 (some .int) ∈ gw := gw_at 875 (by decide +kernel) rfl
theorem ldX4_heal : LkD yX4_heal cX4_heal 3 (some .int) 1 := ⟨iniX4, cdX4_heal, by decide +kernel, by decide +kernel, by decide +kernel⟩
theorem mlL_34 : Cond.methodLink RL 34 yX4_heal ∈ gw := gw_at 872 (by decide +kernel) rfl
theorem imX4_heal : Cond.instanceMethod yX4_heal ∈ gw := gw_at 873 (by decide +kernel) rfl
theorem seX4_heal : Cond.selects (yX4_heal).cls yX4_heal yX4_heal ∈ gw := gw_at 874 (by decide +kernel) rfl
theorem lkL_34 : LkV RL 34 yX4_heal cX4_heal 3 (some .int) 1 := ⟨mlL_34, imX4_heal, seX4_heal, ldX4_heal⟩
theorem cdX3_he : Cond.code yX3_he cX3_he 3 (some .int) ∈ gw := gw_at 443 (by decide +kernel) rfl
theorem ldX3_he : LkD yX3_he cX3_he 3 (some .int) 2 := ⟨iniX3, cdX3_he, by decide +kernel, by decide +kernel, by decide +kernel⟩
theorem mlL_35 : Cond.methodLink RL 35 yX3_he ∈ gw := gw_at 440 (by decide +kernel) rfl
theorem imX3_he : Cond.instanceMethod yX3_he ∈ gw := gw_at 441 (by decide +kernel) rfl
theorem seX3_he : Cond.selects (yX3_he).cls yX3_he yX3_he ∈ gw := gw_at 442 (by decide +kernel) rfl
theorem lkL_35 : LkV RL 35 yX3_he cX3_he 3 (some .int) 2 := ⟨mlL_35, imX3_he, seX3_he, ldX3_he⟩
theorem cdX4_he : Cond.code yX4_he cX4_he 5 (some .int) ∈ gw := gw_at 879 (by decide +kernel) rfl
theorem ldX4_he : LkD yX4_he cX4_he 5 (some .int) 2 := ⟨iniX4, cdX4_he, by decide +kernel, by decide +kernel, by decide +kernel⟩
theorem mlL_39 : Cond.methodLink RL 39 yX4_he ∈ gw := gw_at 876 (by decide +kernel) rfl
theorem imX4_he : Cond.instanceMethod yX4_he ∈ gw := gw_at 877 (by decide +kernel) rfl
theorem seX4_he : Cond.selects (yX4_he).cls yX4_he yX4_he ∈ gw := gw_at 878 (by decide +kernel) rfl
theorem lkL_39 : LkV RL 39 yX4_he cX4_he 5 (some .int) 2 := ⟨mlL_39, imX4_he, seX4_he, ldX4_he⟩
theorem cdX3_stroke : Cond.code yX3_stroke cX3_stroke 2 (some .int) ∈ gw := gw_at 455 (by decide +kernel) rfl
theorem ldX3_stroke : LkD yX3_stroke cX3_stroke 2 (some .int) 1 := ⟨iniX3, cdX3_stroke, by decide +kernel, by decide +kernel, by decide +kernel⟩
theorem mlL_40 : Cond.methodLink RL 40 yX3_stroke ∈ gw := gw_at 452 (by decide +kernel) rfl
theorem imX3_stroke : Cond.instanceMethod yX3_stroke ∈ gw := gw_at 453 (by decide +kernel) rfl
theorem seX3_stroke : Cond.selects (yX3_stroke).cls yX3_stroke yX3_stroke ∈ gw := gw_at 454 (by decide +kernel) rfl
theorem lkL_40 : LkV RL 40 yX3_stroke cX3_stroke 2 (some .int) 1 := ⟨mlL_40, imX3_stroke, seX3_stroke, ldX3_stroke⟩
theorem cdX4_stroke : Cond.code yX4_stroke cX4_stroke 3 (some .int) ∈ gw := gw_at 883 (by decide +kernel) rfl
theorem ldX4_stroke : LkD yX4_stroke cX4_stroke 3 (some .int) 1 := ⟨iniX4, cdX4_stroke, by decide +kernel, by decide +kernel, by decide +kernel⟩
theorem mlL_43 : Cond.methodLink RL 43 yX4_stroke ∈ gw := gw_at 880 (by decide +kernel) rfl
theorem imX4_stroke : Cond.instanceMethod yX4_stroke ∈ gw := gw_at 881 (by decide +kernel) rfl
theorem seX4_stroke : Cond.selects (yX4_stroke).cls yX4_stroke yX4_stroke ∈ gw := gw_at 882 (by decide +kernel) rfl
theorem lkL_43 : LkV RL 43 yX4_stroke cX4_stroke 3 (some .int) 1 := ⟨mlL_43, imX4_stroke, seX4_stroke, ldX4_stroke⟩
theorem cdX3_far : Cond.code yX3_far cX3_far 3 (some .int) ∈ gw := gw_at 460 (by decide +kernel) rfl
theorem ldX3_far : LkD yX3_far cX3_far 3 (some .int) 2 := ⟨iniX3, cdX3_far, by decide +kernel, by decide +kernel, by decide +kernel⟩
theorem mlL_44 : Cond.methodLink RL 44 yX3_far ∈ gw := gw_at 457 (by decide +kernel) rfl
theorem imX3_far : Cond.instanceMethod yX3_far ∈ gw := gw_at 458 (by decide +kernel) rfl
theorem seX3_far : Cond.selects (yX3_far).cls yX3_far yX3_far ∈ gw := gw_at 459 (by decide +kernel) rfl
theorem lkL_44 : LkV RL 44 yX3_far cX3_far 3 (some .int) 2 := ⟨mlL_44, imX3_far, seX3_far, ldX3_far⟩
theorem cdX4_far : Cond.code yX4_far cX4_far 3 (some .int) ∈ gw := gw_at 887 (by decide +kernel) rfl
theorem ldX4_far : LkD yX4_far cX4_far 3 (some .int) 2 := ⟨iniX4, cdX4_far, by decide +kernel, by decide +kernel, by decide +kernel⟩
theorem mlL_47 : Cond.methodLink RL 47 yX4_far ∈ gw := gw_at 884 (by decide +kernel) rfl
theorem imX4_far : Cond.instanceMethod yX4_far ∈ gw := gw_at 885 (by decide +kernel) rfl
theorem seX4_far : Cond.selects (yX4_far).cls yX4_far yX4_far ∈ gw := gw_at 886 (by decide +kernel) rfl
theorem lkL_47 : LkV RL 47 yX4_far cX4_far 3 (some .int) 2 := ⟨mlL_47, imX4_far, seX4_far, ldX4_far⟩
theorem cdX3_say : Cond.code yX3_say cX3_say 1 (some .int) ∈ gw := gw_at 470 (by decide +kernel) rfl
theorem ldX3_say : LkD yX3_say cX3_say 1 (some .int) 0 := ⟨iniX3, cdX3_say, by decide +kernel, by decide +kernel, by decide +kernel⟩
theorem mlL_48 : Cond.methodLink RL 48 yX3_say ∈ gw := gw_at 467 (by decide +kernel) rfl
theorem imX3_say : Cond.instanceMethod yX3_say ∈ gw := gw_at 468 (by decide +kernel) rfl
theorem seX3_say : Cond.selects (yX3_say).cls yX3_say yX3_say ∈ gw := gw_at 469 (by decide +kernel) rfl
theorem lkL_48 : LkV RL 48 yX3_say cX3_say 1 (some .int) 0 := ⟨mlL_48, imX3_say, seX3_say, ldX3_say⟩
theorem cdX4_say : Cond.code yX4_say cX4_say 1 (some .int) ∈ gw := gw_at 894 (by decide +kernel) rfl
theorem ldX4_say : LkD yX4_say cX4_say 1 (some .int) 0 := ⟨iniX4, cdX4_say, by decide +kernel, by decide +kernel, by decide +kernel⟩
theorem mlL_51 : Cond.methodLink RL 51 yX4_say ∈ gw := gw_at 891 (by decide +kernel) rfl
theorem imX4_say : Cond.instanceMethod yX4_say ∈ gw := gw_at 892 (by decide +kernel) rfl
theorem seX4_say : Cond.selects (yX4_say).cls yX4_say yX4_say ∈ gw := gw_at 893 (by decide +kernel) rfl
theorem lkL_51 : LkV RL 51 yX4_say cX4_say 1 (some .int) 0 := ⟨mlL_51, imX4_say, seX4_say, ldX4_say⟩
theorem cdX3_word : Cond.code yX3_word cX3_word 3 (some .int) ∈ gw := gw_at 481 (by decide +kernel) rfl
theorem ldX3_word : LkD yX3_word cX3_word 3 (some .int) 2 := ⟨iniX3, cdX3_word, by decide +kernel, by decide +kernel, by decide +kernel⟩
theorem mlL_52 : Cond.methodLink RL 52 yX3_word ∈ gw := gw_at 478 (by decide +kernel) rfl
theorem imX3_word : Cond.instanceMethod yX3_word ∈ gw := gw_at 479 (by decide +kernel) rfl
theorem seX3_word : Cond.selects (yX3_word).cls yX3_word yX3_word ∈ gw := gw_at 480 (by decide +kernel) rfl
theorem lkL_52 : LkV RL 52 yX3_word cX3_word 3 (some .int) 2 := ⟨mlL_52, imX3_word, seX3_word, ldX3_word⟩
theorem cdX4_word : Cond.code yX4_word cX4_word 3 (some .int) ∈ gw := gw_at 906 (by decide +kernel) rfl
theorem ldX4_word : LkD yX4_word cX4_word 3 (some .int) 2 := ⟨iniX4, cdX4_word, by decide +kernel, by decide +kernel, by decide +kernel⟩
theorem mlL_55 : Cond.methodLink RL 55 yX4_word ∈ gw := gw_at 903 (by decide +kernel) rfl
theorem imX4_word : Cond.instanceMethod yX4_word ∈ gw := gw_at 904 (by decide +kernel) rfl
theorem seX4_word : Cond.selects (yX4_word).cls yX4_word yX4_word ∈ gw := gw_at 905 (by decide +kernel) rfl
theorem lkL_55 : LkV RL 55 yX4_word cX4_word 3 (some .int) 2 := ⟨mlL_55, imX4_word, seX4_word, ldX4_word⟩
theorem cdX3_behind : Cond.code yX3_behind cX3_behind 4 (some .int) ∈ gw := gw_at 486 (by decide +kernel) rfl
theorem ldX3_behind : LkD yX3_behind cX3_behind 4 (some .int) 2 := ⟨iniX3, cdX3_behind, by decide +kernel, by decide +kernel, by decide +kernel⟩
theorem mlL_56 : Cond.methodLink RL 56 yX3_behind ∈ gw := gw_at 483 (by decide +kernel) rfl
theorem imX3_behind : Cond.instanceMethod yX3_behind ∈ gw := gw_at 484 (by decide +kernel) rfl
theorem seX3_behind : Cond.selects (yX3_behind).cls yX3_behind yX3_behind ∈ gw := gw_at 485 (by decide +kernel) rfl
theorem lkL_56 : LkV RL 56 yX3_behind cX3_behind 4 (some .int) 2 := ⟨mlL_56, imX3_behind, seX3_behind, ldX3_behind⟩
theorem cdX4_behind : Cond.code yX4_behind cX4_behind 5 (some .int) ∈ gw := gw_at 910 (by decide +kernel) rfl
theorem ldX4_behind : LkD yX4_behind cX4_behind 5 (some .int) 2 := ⟨iniX4, cdX4_behind, by decide +kernel, by decide +kernel, by decide +kernel⟩
theorem mlL_59 : Cond.methodLink RL 59 yX4_behind ∈ gw := gw_at 907 (by decide +kernel) rfl
theorem imX4_behind : Cond.instanceMethod yX4_behind ∈ gw := gw_at 908 (by decide +kernel) rfl
theorem seX4_behind : Cond.selects (yX4_behind).cls yX4_behind yX4_behind ∈ gw := gw_at 909 (by decide +kernel) rfl
theorem lkL_59 : LkV RL 59 yX4_behind cX4_behind 5 (some .int) 2 := ⟨mlL_59, imX4_behind, seX4_behind, ldX4_behind⟩
theorem cdX3_reads : Cond.code yX3_reads cX3_reads 4 (some .int) ∈ gw := gw_at 490 (by decide +kernel) rfl
theorem ldX3_reads : LkD yX3_reads cX3_reads 4 (some .int) 3 := ⟨iniX3, cdX3_reads, by decide +kernel, by decide +kernel, by decide +kernel⟩
theorem mlL_60 : Cond.methodLink RL 60 yX3_reads ∈ gw := gw_at 487 (by decide +kernel) rfl
theorem imX3_reads : Cond.instanceMethod yX3_reads ∈ gw := gw_at 488 (by decide +kernel) rfl
theorem seX3_reads : Cond.selects (yX3_reads).cls yX3_reads yX3_reads ∈ gw := gw_at 489 (by decide +kernel) rfl
theorem lkL_60 : LkV RL 60 yX3_reads cX3_reads 4 (some .int) 3 := ⟨mlL_60, imX3_reads, seX3_reads, ldX3_reads⟩
theorem cdX4_reads : Cond.code yX4_reads cX4_reads 5 (some .int) ∈ gw := gw_at 914 (by decide +kernel) rfl
theorem ldX4_reads : LkD yX4_reads cX4_reads 5 (some .int) 3 := ⟨iniX4, cdX4_reads, by decide +kernel, by decide +kernel, by decide +kernel⟩
theorem mlL_64 : Cond.methodLink RL 64 yX4_reads ∈ gw := gw_at 911 (by decide +kernel) rfl
theorem imX4_reads : Cond.instanceMethod yX4_reads ∈ gw := gw_at 912 (by decide +kernel) rfl
theorem seX4_reads : Cond.selects (yX4_reads).cls yX4_reads yX4_reads ∈ gw := gw_at 913 (by decide +kernel) rfl
theorem lkL_64 : LkV RL 64 yX4_reads cX4_reads 5 (some .int) 3 := ⟨mlL_64, imX4_reads, seX4_reads, ldX4_reads⟩
theorem cdX3_follow : Cond.code yX3_follow cX3_follow 3 (some .int) ∈ gw := gw_at 509 (by decide +kernel) rfl
theorem ldX3_follow : LkD yX3_follow cX3_follow 3 (some .int) 1 := ⟨iniX3, cdX3_follow, by decide +kernel, by decide +kernel, by decide +kernel⟩
theorem mlL_65 : Cond.methodLink RL 65 yX3_follow ∈ gw := gw_at 506 (by decide +kernel) rfl
theorem imX3_follow : Cond.instanceMethod yX3_follow ∈ gw := gw_at 507 (by decide +kernel) rfl
theorem seX3_follow : Cond.selects (yX3_follow).cls yX3_follow yX3_follow ∈ gw := gw_at 508 (by decide +kernel) rfl
theorem lkL_65 : LkV RL 65 yX3_follow cX3_follow 3 (some .int) 1 := ⟨mlL_65, imX3_follow, seX3_follow, ldX3_follow⟩
theorem cdX4_follow : Cond.code yX4_follow cX4_follow 2 (some .int) ∈ gw := gw_at 925 (by decide +kernel) rfl
theorem ldX4_follow : LkD yX4_follow cX4_follow 2 (some .int) 1 := ⟨iniX4, cdX4_follow, by decide +kernel, by decide +kernel, by decide +kernel⟩
theorem mlL_68 : Cond.methodLink RL 68 yX4_follow ∈ gw := gw_at 922 (by decide +kernel) rfl
theorem imX4_follow : Cond.instanceMethod yX4_follow ∈ gw := gw_at 923 (by decide +kernel) rfl
theorem seX4_follow : Cond.selects (yX4_follow).cls yX4_follow yX4_follow ∈ gw := gw_at 924 (by decide +kernel) rfl
theorem lkL_68 : LkV RL 68 yX4_follow cX4_follow 2 (some .int) 1 := ⟨mlL_68, imX4_follow, seX4_follow, ldX4_follow⟩
theorem cdX3_mean : Cond.code yX3_mean cX3_mean 6 (some .long) ∈ gw := gw_at 520 (by decide +kernel) rfl
theorem ldX3_mean : LkD yX3_mean cX3_mean 6 (some .long) 2 := ⟨iniX3, cdX3_mean, by decide +kernel, by decide +kernel, by decide +kernel⟩
theorem mlL_69 : Cond.methodLink RL 69 yX3_mean ∈ gw := gw_at 517 (by decide +kernel) rfl
theorem imX3_mean : Cond.instanceMethod yX3_mean ∈ gw := gw_at 518 (by decide +kernel) rfl
theorem seX3_mean : Cond.selects (yX3_mean).cls yX3_mean yX3_mean ∈ gw := gw_at 519 (by decide +kernel) rfl
theorem lkL_69 : LkV RL 69 yX3_mean cX3_mean 6 (some .long) 2 := ⟨mlL_69, imX3_mean, seX3_mean, ldX3_mean⟩
theorem cdX4_mean : Cond.code yX4_mean cX4_mean 3 (some .long) ∈ gw := gw_at 933 (by decide +kernel) rfl
theorem ldX4_mean : LkD yX4_mean cX4_mean 3 (some .long) 2 := ⟨iniX4, cdX4_mean, by decide +kernel, by decide +kernel, by decide +kernel⟩
theorem mlL_73 : Cond.methodLink RL 73 yX4_mean ∈ gw := gw_at 930 (by decide +kernel) rfl
theorem imX4_mean : Cond.instanceMethod yX4_mean ∈ gw := gw_at 931 (by decide +kernel) rfl
theorem seX4_mean : Cond.selects (yX4_mean).cls yX4_mean yX4_mean ∈ gw := gw_at 932 (by decide +kernel) rfl
theorem lkL_73 : LkV RL 73 yX4_mean cX4_mean 3 (some .long) 2 := ⟨mlL_73, imX4_mean, seX4_mean, ldX4_mean⟩
theorem cdX3_hardest : Cond.code yX3_hardest cX3_hardest 6 (some .int) ∈ gw := gw_at 537 (by decide +kernel) rfl
theorem ldX3_hardest : LkD yX3_hardest cX3_hardest 6 (some .int) 1 := ⟨iniX3, cdX3_hardest, by decide +kernel, by decide +kernel, by decide +kernel⟩
theorem mlL_74 : Cond.methodLink RL 74 yX3_hardest ∈ gw := gw_at 534 (by decide +kernel) rfl
theorem imX3_hardest : Cond.instanceMethod yX3_hardest ∈ gw := gw_at 535 (by decide +kernel) rfl
theorem seX3_hardest : Cond.selects (yX3_hardest).cls yX3_hardest yX3_hardest ∈ gw := gw_at 536 (by decide +kernel) rfl
theorem lkL_74 : LkV RL 74 yX3_hardest cX3_hardest 6 (some .int) 1 := ⟨mlL_74, imX3_hardest, seX3_hardest, ldX3_hardest⟩
theorem cdX4_hardest : Cond.code yX4_hardest cX4_hardest 2 (some .int) ∈ gw := gw_at 956 (by decide +kernel) rfl
theorem ldX4_hardest : LkD yX4_hardest cX4_hardest 2 (some .int) 1 := ⟨iniX4, cdX4_hardest, by decide +kernel, by decide +kernel, by decide +kernel⟩
theorem mlL_77 : Cond.methodLink RL 77 yX4_hardest ∈ gw := gw_at 953 (by decide +kernel) rfl
theorem imX4_hardest : Cond.instanceMethod yX4_hardest ∈ gw := gw_at 954 (by decide +kernel) rfl
theorem seX4_hardest : Cond.selects (yX4_hardest).cls yX4_hardest yX4_hardest ∈ gw := gw_at 955 (by decide +kernel) rfl
theorem lkL_77 : LkV RL 77 yX4_hardest cX4_hardest 2 (some .int) 1 := ⟨mlL_77, imX4_hardest, seX4_hardest, ldX4_hardest⟩
theorem cdX3_speak : Cond.code yX3_speak cX3_speak 8 (some .int) ∈ gw := gw_at 541 (by decide +kernel) rfl
theorem ldX3_speak : LkD yX3_speak cX3_speak 8 (some .int) 2 := ⟨iniX3, cdX3_speak, by decide +kernel, by decide +kernel, by decide +kernel⟩
theorem mlL_78 : Cond.methodLink RL 78 yX3_speak ∈ gw := gw_at 538 (by decide +kernel) rfl
theorem imX3_speak : Cond.instanceMethod yX3_speak ∈ gw := gw_at 539 (by decide +kernel) rfl
theorem seX3_speak : Cond.selects (yX3_speak).cls yX3_speak yX3_speak ∈ gw := gw_at 540 (by decide +kernel) rfl
theorem lkL_78 : LkV RL 78 yX3_speak cX3_speak 8 (some .int) 2 := ⟨mlL_78, imX3_speak, seX3_speak, ldX3_speak⟩
theorem cdX4_speak : Cond.code yX4_speak cX4_speak 9 (some .int) ∈ gw := gw_at 960 (by decide +kernel) rfl
theorem ldX4_speak : LkD yX4_speak cX4_speak 9 (some .int) 2 := ⟨iniX4, cdX4_speak, by decide +kernel, by decide +kernel, by decide +kernel⟩
theorem mlL_81 : Cond.methodLink RL 81 yX4_speak ∈ gw := gw_at 957 (by decide +kernel) rfl
theorem imX4_speak : Cond.instanceMethod yX4_speak ∈ gw := gw_at 958 (by decide +kernel) rfl
theorem seX4_speak : Cond.selects (yX4_speak).cls yX4_speak yX4_speak ∈ gw := gw_at 959 (by decide +kernel) rfl
theorem lkL_81 : LkV RL 81 yX4_speak cX4_speak 9 (some .int) 2 := ⟨mlL_81, imX4_speak, seX4_speak, ldX4_speak⟩
theorem cdX3_saying : Cond.code yX3_saying cX3_saying 3 (some .int) ∈ gw := gw_at 545 (by decide +kernel) rfl
theorem ldX3_saying : LkD yX3_saying cX3_saying 3 (some .int) 2 := ⟨iniX3, cdX3_saying, by decide +kernel, by decide +kernel, by decide +kernel⟩
theorem mlL_82 : Cond.methodLink RL 82 yX3_saying ∈ gw := gw_at 542 (by decide +kernel) rfl
theorem imX3_saying : Cond.instanceMethod yX3_saying ∈ gw := gw_at 543 (by decide +kernel) rfl
theorem seX3_saying : Cond.selects (yX3_saying).cls yX3_saying yX3_saying ∈ gw := gw_at 544 (by decide +kernel) rfl
theorem lkL_82 : LkV RL 82 yX3_saying cX3_saying 3 (some .int) 2 := ⟨mlL_82, imX3_saying, seX3_saying, ldX3_saying⟩
theorem cdX4_saying : Cond.code yX4_saying cX4_saying 4 (some .int) ∈ gw := gw_at 964 (by decide +kernel) rfl
theorem ldX4_saying : LkD yX4_saying cX4_saying 4 (some .int) 2 := ⟨iniX4, cdX4_saying, by decide +kernel, by decide +kernel, by decide +kernel⟩
theorem mlL_85 : Cond.methodLink RL 85 yX4_saying ∈ gw := gw_at 961 (by decide +kernel) rfl
theorem imX4_saying : Cond.instanceMethod yX4_saying ∈ gw := gw_at 962 (by decide +kernel) rfl
theorem seX4_saying : Cond.selects (yX4_saying).cls yX4_saying yX4_saying ∈ gw := gw_at 963 (by decide +kernel) rfl
theorem lkL_85 : LkV RL 85 yX4_saying cX4_saying 4 (some .int) 2 := ⟨mlL_85, imX4_saying, seX4_saying, ldX4_saying⟩
theorem cdX3_hush : Cond.code yX3_hush cX3_hush 2 (some .int) ∈ gw := gw_at 553 (by decide +kernel) rfl
theorem ldX3_hush : LkD yX3_hush cX3_hush 2 (some .int) 0 := ⟨iniX3, cdX3_hush, by decide +kernel, by decide +kernel, by decide +kernel⟩
theorem mlL_86 : Cond.methodLink RL 86 yX3_hush ∈ gw := gw_at 550 (by decide +kernel) rfl
theorem imX3_hush : Cond.instanceMethod yX3_hush ∈ gw := gw_at 551 (by decide +kernel) rfl
theorem seX3_hush : Cond.selects (yX3_hush).cls yX3_hush yX3_hush ∈ gw := gw_at 552 (by decide +kernel) rfl
theorem lkL_86 : LkV RL 86 yX3_hush cX3_hush 2 (some .int) 0 := ⟨mlL_86, imX3_hush, seX3_hush, ldX3_hush⟩
theorem cdX4_hush : Cond.code yX4_hush cX4_hush 2 (some .int) ∈ gw := gw_at 968 (by decide +kernel) rfl
theorem ldX4_hush : LkD yX4_hush cX4_hush 2 (some .int) 0 := ⟨iniX4, cdX4_hush, by decide +kernel, by decide +kernel, by decide +kernel⟩
theorem mlL_89 : Cond.methodLink RL 89 yX4_hush ∈ gw := gw_at 965 (by decide +kernel) rfl
theorem imX4_hush : Cond.instanceMethod yX4_hush ∈ gw := gw_at 966 (by decide +kernel) rfl
theorem seX4_hush : Cond.selects (yX4_hush).cls yX4_hush yX4_hush ∈ gw := gw_at 967 (by decide +kernel) rfl
theorem lkL_89 : LkV RL 89 yX4_hush cX4_hush 2 (some .int) 0 := ⟨mlL_89, imX4_hush, seX4_hush, ldX4_hush⟩
theorem cdX3_may : Cond.code yX3_may cX3_may 5 (some .int) ∈ gw := gw_at 557 (by decide +kernel) rfl
theorem ldX3_may : LkD yX3_may cX3_may 5 (some .int) 1 := ⟨iniX3, cdX3_may, by decide +kernel, by decide +kernel, by decide +kernel⟩
theorem mlL_90 : Cond.methodLink RL 90 yX3_may ∈ gw := gw_at 554 (by decide +kernel) rfl
theorem imX3_may : Cond.instanceMethod yX3_may ∈ gw := gw_at 555 (by decide +kernel) rfl
theorem seX3_may : Cond.selects (yX3_may).cls yX3_may yX3_may ∈ gw := gw_at 556 (by decide +kernel) rfl
theorem lkL_90 : LkV RL 90 yX3_may cX3_may 5 (some .int) 1 := ⟨mlL_90, imX3_may, seX3_may, ldX3_may⟩
theorem cdX4_may : Cond.code yX4_may cX4_may 4 (some .int) ∈ gw := gw_at 972 (by decide +kernel) rfl
theorem ldX4_may : LkD yX4_may cX4_may 4 (some .int) 1 := ⟨iniX4, cdX4_may, by decide +kernel, by decide +kernel, by decide +kernel⟩
theorem mlL_93 : Cond.methodLink RL 93 yX4_may ∈ gw := gw_at 969 (by decide +kernel) rfl
theorem imX4_may : Cond.instanceMethod yX4_may ∈ gw := gw_at 970 (by decide +kernel) rfl
theorem seX4_may : Cond.selects (yX4_may).cls yX4_may yX4_may ∈ gw := gw_at 971 (by decide +kernel) rfl
theorem lkL_93 : LkV RL 93 yX4_may cX4_may 4 (some .int) 1 := ⟨mlL_93, imX4_may, seX4_may, ldX4_may⟩
theorem cdX3_heMany : Cond.code yX3_heMany cX3_heMany 4 (some .int) ∈ gw := gw_at 570 (by decide +kernel) rfl
theorem ldX3_heMany : LkD yX3_heMany cX3_heMany 4 (some .int) 0 := ⟨iniX3, cdX3_heMany, by decide +kernel, by decide +kernel, by decide +kernel⟩
theorem mlL_94 : Cond.methodLink RL 94 yX3_heMany ∈ gw := gw_at 567 (by decide +kernel) rfl
theorem imX3_heMany : Cond.instanceMethod yX3_heMany ∈ gw := gw_at 568 (by decide +kernel) rfl
theorem seX3_heMany : Cond.selects (yX3_heMany).cls yX3_heMany yX3_heMany ∈ gw := gw_at 569 (by decide +kernel) rfl
theorem lkL_94 : LkV RL 94 yX3_heMany cX3_heMany 4 (some .int) 0 := ⟨mlL_94, imX3_heMany, seX3_heMany, ldX3_heMany⟩
theorem cdX4_heMany : Cond.code yX4_heMany cX4_heMany 3 (some .int) ∈ gw := gw_at 984 (by decide +kernel) rfl
theorem ldX4_heMany : LkD yX4_heMany cX4_heMany 3 (some .int) 0 := ⟨iniX4, cdX4_heMany, by decide +kernel, by decide +kernel, by decide +kernel⟩
theorem mlL_97 : Cond.methodLink RL 97 yX4_heMany ∈ gw := gw_at 981 (by decide +kernel) rfl
theorem imX4_heMany : Cond.instanceMethod yX4_heMany ∈ gw := gw_at 982 (by decide +kernel) rfl
theorem seX4_heMany : Cond.selects (yX4_heMany).cls yX4_heMany yX4_heMany ∈ gw := gw_at 983 (by decide +kernel) rfl
theorem lkL_97 : LkV RL 97 yX4_heMany cX4_heMany 3 (some .int) 0 := ⟨mlL_97, imX4_heMany, seX4_heMany, ldX4_heMany⟩
theorem cdX3_odds : Cond.code yX3_odds cX3_odds 6 (some .long) ∈ gw := gw_at 574 (by decide +kernel) rfl
theorem ldX3_odds : LkD yX3_odds cX3_odds 6 (some .long) 2 := ⟨iniX3, cdX3_odds, by decide +kernel, by decide +kernel, by decide +kernel⟩
theorem mlL_98 : Cond.methodLink RL 98 yX3_odds ∈ gw := gw_at 571 (by decide +kernel) rfl
theorem imX3_odds : Cond.instanceMethod yX3_odds ∈ gw := gw_at 572 (by decide +kernel) rfl
theorem seX3_odds : Cond.selects (yX3_odds).cls yX3_odds yX3_odds ∈ gw := gw_at 573 (by decide +kernel) rfl
theorem lkL_98 : LkV RL 98 yX3_odds cX3_odds 6 (some .long) 2 := ⟨mlL_98, imX3_odds, seX3_odds, ldX3_odds⟩
theorem cdX4_odds : Cond.code yX4_odds cX4_odds 6 (some .long) ∈ gw := gw_at 988 (by decide +kernel) rfl
theorem ldX4_odds : LkD yX4_odds cX4_odds 6 (some .long) 2 := ⟨iniX4, cdX4_odds, by decide +kernel, by decide +kernel, by decide +kernel⟩
theorem mlL_101 : Cond.methodLink RL 101 yX4_odds ∈ gw := gw_at 985 (by decide +kernel) rfl
theorem imX4_odds : Cond.instanceMethod yX4_odds ∈ gw := gw_at 986 (by decide +kernel) rfl
theorem seX4_odds : Cond.selects (yX4_odds).cls yX4_odds yX4_odds ∈ gw := gw_at 987 (by decide +kernel) rfl
theorem lkL_101 : LkV RL 101 yX4_odds cX4_odds 6 (some .long) 2 := ⟨mlL_101, imX4_odds, seX4_odds, ldX4_odds⟩
theorem cdX3_next : Cond.code yX3_next cX3_next 7 (some .int) ∈ gw := gw_at 584 (by decide +kernel) rfl
theorem ldX3_next : LkD yX3_next cX3_next 7 (some .int) 1 := ⟨iniX3, cdX3_next, by decide +kernel, by decide +kernel, by decide +kernel⟩
theorem mlL_102 : Cond.methodLink RL 102 yX3_next ∈ gw := gw_at 581 (by decide +kernel) rfl
theorem imX3_next : Cond.instanceMethod yX3_next ∈ gw := gw_at 582 (by decide +kernel) rfl
theorem seX3_next : Cond.selects (yX3_next).cls yX3_next yX3_next ∈ gw := gw_at 583 (by decide +kernel) rfl
theorem lkL_102 : LkV RL 102 yX3_next cX3_next 7 (some .int) 1 := ⟨mlL_102, imX3_next, seX3_next, ldX3_next⟩
theorem cdX4_next_ : Cond.code yX4_next_ cX4_next_ 7 (some .int) ∈ gw := gw_at 997 (by decide +kernel) rfl
theorem ldX4_next_ : LkD yX4_next_ cX4_next_ 7 (some .int) 1 := ⟨iniX4, cdX4_next_, by decide +kernel, by decide +kernel, by decide +kernel⟩
theorem mlL_105 : Cond.methodLink RL 105 yX4_next_ ∈ gw := gw_at 994 (by decide +kernel) rfl
theorem imX4_next_ : Cond.instanceMethod yX4_next_ ∈ gw := gw_at 995 (by decide +kernel) rfl
theorem seX4_next_ : Cond.selects (yX4_next_).cls yX4_next_ yX4_next_ ∈ gw := gw_at 996 (by decide +kernel) rfl
theorem lkL_105 : LkV RL 105 yX4_next_ cX4_next_ 7 (some .int) 1 := ⟨mlL_105, imX4_next_, seX4_next_, ldX4_next_⟩
theorem cdX3_strip : Cond.code yX3_strip cX3_strip 2 (some .int) ∈ gw := gw_at 593 (by decide +kernel) rfl
theorem ldX3_strip : LkD yX3_strip cX3_strip 2 (some .int) 1 := ⟨iniX3, cdX3_strip, by decide +kernel, by decide +kernel, by decide +kernel⟩
theorem mlL_106 : Cond.methodLink RL 106 yX3_strip ∈ gw := gw_at 590 (by decide +kernel) rfl
theorem imX3_strip : Cond.instanceMethod yX3_strip ∈ gw := gw_at 591 (by decide +kernel) rfl
theorem seX3_strip : Cond.selects (yX3_strip).cls yX3_strip yX3_strip ∈ gw := gw_at 592 (by decide +kernel) rfl
theorem lkL_106 : LkV RL 106 yX3_strip cX3_strip 2 (some .int) 1 := ⟨mlL_106, imX3_strip, seX3_strip, ldX3_strip⟩
theorem cdX4_strip : Cond.code yX4_strip cX4_strip 2 (some .int) ∈ gw := gw_at 1005 (by decide +kernel) rfl
theorem ldX4_strip : LkD yX4_strip cX4_strip 2 (some .int) 1 := ⟨iniX4, cdX4_strip, by decide +kernel, by decide +kernel, by decide +kernel⟩
theorem mlL_109 : Cond.methodLink RL 109 yX4_strip ∈ gw := gw_at 1002 (by decide +kernel) rfl
theorem imX4_strip : Cond.instanceMethod yX4_strip ∈ gw := gw_at 1003 (by decide +kernel) rfl
theorem seX4_strip : Cond.selects (yX4_strip).cls yX4_strip yX4_strip ∈ gw := gw_at 1004 (by decide +kernel) rfl
theorem lkL_109 : LkV RL 109 yX4_strip cX4_strip 2 (some .int) 1 := ⟨mlL_109, imX4_strip, seX4_strip, ldX4_strip⟩
theorem cdX3_bestStrip : Cond.code yX3_bestStrip cX3_bestStrip 5 (some .int) ∈ gw := gw_at 601 (by decide +kernel) rfl
theorem ldX3_bestStrip : LkD yX3_bestStrip cX3_bestStrip 5 (some .int) 0 := ⟨iniX3, cdX3_bestStrip, by decide +kernel, by decide +kernel, by decide +kernel⟩
theorem mlL_110 : Cond.methodLink RL 110 yX3_bestStrip ∈ gw := gw_at 598 (by decide +kernel) rfl
theorem imX3_bestStrip : Cond.instanceMethod yX3_bestStrip ∈ gw := gw_at 599 (by decide +kernel) rfl
theorem seX3_bestStrip : Cond.selects (yX3_bestStrip).cls yX3_bestStrip yX3_bestStrip ∈ gw := gw_at 600 (by decide +kernel) rfl
theorem lkL_110 : LkV RL 110 yX3_bestStrip cX3_bestStrip 5 (some .int) 0 := ⟨mlL_110, imX3_bestStrip, seX3_bestStrip, ldX3_bestStrip⟩
theorem cdX4_bestStrip : Cond.code yX4_bestStrip cX4_bestStrip 5 (some .int) ∈ gw := gw_at 1013 (by decide +kernel) rfl
theorem ldX4_bestStrip : LkD yX4_bestStrip cX4_bestStrip 5 (some .int) 0 := ⟨iniX4, cdX4_bestStrip, by decide +kernel, by decide +kernel, by decide +kernel⟩
theorem mlL_113 : Cond.methodLink RL 113 yX4_bestStrip ∈ gw := gw_at 1010 (by decide +kernel) rfl
theorem imX4_bestStrip : Cond.instanceMethod yX4_bestStrip ∈ gw := gw_at 1011 (by decide +kernel) rfl
theorem seX4_bestStrip : Cond.selects (yX4_bestStrip).cls yX4_bestStrip yX4_bestStrip ∈ gw := gw_at 1012 (by decide +kernel) rfl
theorem lkL_113 : LkV RL 113 yX4_bestStrip cX4_bestStrip 5 (some .int) 0 := ⟨mlL_113, imX4_bestStrip, seX4_bestStrip, ldX4_bestStrip⟩
theorem cdX3_fewest : Cond.code yX3_fewest cX3_fewest 4 (some .int) ∈ gw := gw_at 605 (by decide +kernel) rfl
theorem ldX3_fewest : LkD yX3_fewest cX3_fewest 4 (some .int) 1 := ⟨iniX3, cdX3_fewest, by decide +kernel, by decide +kernel, by decide +kernel⟩
theorem mlL_114 : Cond.methodLink RL 114 yX3_fewest ∈ gw := gw_at 602 (by decide +kernel) rfl
theorem imX3_fewest : Cond.instanceMethod yX3_fewest ∈ gw := gw_at 603 (by decide +kernel) rfl
theorem seX3_fewest : Cond.selects (yX3_fewest).cls yX3_fewest yX3_fewest ∈ gw := gw_at 604 (by decide +kernel) rfl
theorem lkL_114 : LkV RL 114 yX3_fewest cX3_fewest 4 (some .int) 1 := ⟨mlL_114, imX3_fewest, seX3_fewest, ldX3_fewest⟩
theorem cdX4_fewest : Cond.code yX4_fewest cX4_fewest 6 (some .int) ∈ gw := gw_at 1017 (by decide +kernel) rfl
theorem ldX4_fewest : LkD yX4_fewest cX4_fewest 6 (some .int) 1 := ⟨iniX4, cdX4_fewest, by decide +kernel, by decide +kernel, by decide +kernel⟩
theorem mlL_117 : Cond.methodLink RL 117 yX4_fewest ∈ gw := gw_at 1014 (by decide +kernel) rfl
theorem imX4_fewest : Cond.instanceMethod yX4_fewest ∈ gw := gw_at 1015 (by decide +kernel) rfl
theorem seX4_fewest : Cond.selects (yX4_fewest).cls yX4_fewest yX4_fewest ∈ gw := gw_at 1016 (by decide +kernel) rfl
theorem lkL_117 : LkV RL 117 yX4_fewest cX4_fewest 6 (some .int) 1 := ⟨mlL_117, imX4_fewest, seX4_fewest, ldX4_fewest⟩
theorem cdX3_bears : Cond.code yX3_bears cX3_bears 4 (some .int) ∈ gw := gw_at 617 (by decide +kernel) rfl
theorem ldX3_bears : LkD yX3_bears cX3_bears 4 (some .int) 2 := ⟨iniX3, cdX3_bears, by decide +kernel, by decide +kernel, by decide +kernel⟩
theorem mlL_118 : Cond.methodLink RL 118 yX3_bears ∈ gw := gw_at 614 (by decide +kernel) rfl
theorem imX3_bears : Cond.instanceMethod yX3_bears ∈ gw := gw_at 615 (by decide +kernel) rfl
theorem seX3_bears : Cond.selects (yX3_bears).cls yX3_bears yX3_bears ∈ gw := gw_at 616 (by decide +kernel) rfl
theorem lkL_118 : LkV RL 118 yX3_bears cX3_bears 4 (some .int) 2 := ⟨mlL_118, imX3_bears, seX3_bears, ldX3_bears⟩
theorem cdX4_bears : Cond.code yX4_bears cX4_bears 4 (some .int) ∈ gw := gw_at 1025 (by decide +kernel) rfl
theorem ldX4_bears : LkD yX4_bears cX4_bears 4 (some .int) 2 := ⟨iniX4, cdX4_bears, by decide +kernel, by decide +kernel, by decide +kernel⟩
theorem mlL_121 : Cond.methodLink RL 121 yX4_bears ∈ gw := gw_at 1022 (by decide +kernel) rfl
theorem imX4_bears : Cond.instanceMethod yX4_bears ∈ gw := gw_at 1023 (by decide +kernel) rfl
theorem seX4_bears : Cond.selects (yX4_bears).cls yX4_bears yX4_bears ∈ gw := gw_at 1024 (by decide +kernel) rfl
theorem lkL_121 : LkV RL 121 yX4_bears cX4_bears 4 (some .int) 2 := ⟨mlL_121, imX4_bears, seX4_bears, ldX4_bears⟩
theorem cdX3_grid : Cond.code yX3_grid cX3_grid 8 (some .int) ∈ gw := gw_at 626 (by decide +kernel) rfl
theorem ldX3_grid : LkD yX3_grid cX3_grid 8 (some .int) 4 := ⟨iniX3, cdX3_grid, by decide +kernel, by decide +kernel, by decide +kernel⟩
theorem mlL_122 : Cond.methodLink RL 122 yX3_grid ∈ gw := gw_at 623 (by decide +kernel) rfl
theorem imX3_grid : Cond.instanceMethod yX3_grid ∈ gw := gw_at 624 (by decide +kernel) rfl
theorem seX3_grid : Cond.selects (yX3_grid).cls yX3_grid yX3_grid ∈ gw := gw_at 625 (by decide +kernel) rfl
theorem lkL_122 : LkV RL 122 yX3_grid cX3_grid 8 (some .int) 4 := ⟨mlL_122, imX3_grid, seX3_grid, ldX3_grid⟩
theorem cdX4_grid : Cond.code yX4_grid cX4_grid 9 (some .int) ∈ gw := gw_at 1033 (by decide +kernel) rfl
theorem ldX4_grid : LkD yX4_grid cX4_grid 9 (some .int) 4 := ⟨iniX4, cdX4_grid, by decide +kernel, by decide +kernel, by decide +kernel⟩
theorem mlL_126 : Cond.methodLink RL 126 yX4_grid ∈ gw := gw_at 1030 (by decide +kernel) rfl
theorem imX4_grid : Cond.instanceMethod yX4_grid ∈ gw := gw_at 1031 (by decide +kernel) rfl
theorem seX4_grid : Cond.selects (yX4_grid).cls yX4_grid yX4_grid ∈ gw := gw_at 1032 (by decide +kernel) rfl
theorem lkL_126 : LkV RL 126 yX4_grid cX4_grid 9 (some .int) 4 := ⟨mlL_126, imX4_grid, seX4_grid, ldX4_grid⟩
theorem cdX3_taught : Cond.code yX3_taught cX3_taught 6 (some .int) ∈ gw := gw_at 633 (by decide +kernel) rfl
theorem ldX3_taught : LkD yX3_taught cX3_taught 6 (some .int) 0 := ⟨iniX3, cdX3_taught, by decide +kernel, by decide +kernel, by decide +kernel⟩
theorem mlL_127 : Cond.methodLink RL 127 yX3_taught ∈ gw := gw_at 630 (by decide +kernel) rfl
theorem imX3_taught : Cond.instanceMethod yX3_taught ∈ gw := gw_at 631 (by decide +kernel) rfl
theorem seX3_taught : Cond.selects (yX3_taught).cls yX3_taught yX3_taught ∈ gw := gw_at 632 (by decide +kernel) rfl
theorem lkL_127 : LkV RL 127 yX3_taught cX3_taught 6 (some .int) 0 := ⟨mlL_127, imX3_taught, seX3_taught, ldX3_taught⟩
theorem cdX4_taught : Cond.code yX4_taught cX4_taught 5 (some .int) ∈ gw := gw_at 1040 (by decide +kernel) rfl
theorem ldX4_taught : LkD yX4_taught cX4_taught 5 (some .int) 0 := ⟨iniX4, cdX4_taught, by decide +kernel, by decide +kernel, by decide +kernel⟩
theorem mlL_130 : Cond.methodLink RL 130 yX4_taught ∈ gw := gw_at 1037 (by decide +kernel) rfl
theorem imX4_taught : Cond.instanceMethod yX4_taught ∈ gw := gw_at 1038 (by decide +kernel) rfl
theorem seX4_taught : Cond.selects (yX4_taught).cls yX4_taught yX4_taught ∈ gw := gw_at 1039 (by decide +kernel) rfl
theorem lkL_130 : LkV RL 130 yX4_taught cX4_taught 5 (some .int) 0 := ⟨mlL_130, imX4_taught, seX4_taught, ldX4_taught⟩
theorem cdX3_row : Cond.code yX3_row cX3_row 2 (some .int) ∈ gw := gw_at 637 (by decide +kernel) rfl
theorem ldX3_row : LkD yX3_row cX3_row 2 (some .int) 1 := ⟨iniX3, cdX3_row, by decide +kernel, by decide +kernel, by decide +kernel⟩
theorem mlL_131 : Cond.methodLink RL 131 yX3_row ∈ gw := gw_at 634 (by decide +kernel) rfl
theorem imX3_row : Cond.instanceMethod yX3_row ∈ gw := gw_at 635 (by decide +kernel) rfl
theorem seX3_row : Cond.selects (yX3_row).cls yX3_row yX3_row ∈ gw := gw_at 636 (by decide +kernel) rfl
theorem lkL_131 : LkV RL 131 yX3_row cX3_row 2 (some .int) 1 := ⟨mlL_131, imX3_row, seX3_row, ldX3_row⟩
theorem cdX4_row : Cond.code yX4_row cX4_row 3 (some .int) ∈ gw := gw_at 1044 (by decide +kernel) rfl
theorem ldX4_row : LkD yX4_row cX4_row 3 (some .int) 1 := ⟨iniX4, cdX4_row, by decide +kernel, by decide +kernel, by decide +kernel⟩
theorem mlL_134 : Cond.methodLink RL 134 yX4_row ∈ gw := gw_at 1041 (by decide +kernel) rfl
theorem imX4_row : Cond.instanceMethod yX4_row ∈ gw := gw_at 1042 (by decide +kernel) rfl
theorem seX4_row : Cond.selects (yX4_row).cls yX4_row yX4_row ∈ gw := gw_at 1043 (by decide +kernel) rfl
theorem lkL_134 : LkV RL 134 yX4_row cX4_row 3 (some .int) 1 := ⟨mlL_134, imX4_row, seX4_row, ldX4_row⟩
theorem cdX3_kinds : Cond.code yX3_kinds cX3_kinds 3 (some .int) ∈ gw := gw_at 641 (by decide +kernel) rfl
theorem ldX3_kinds : LkD yX3_kinds cX3_kinds 3 (some .int) 0 := ⟨iniX3, cdX3_kinds, by decide +kernel, by decide +kernel, by decide +kernel⟩
theorem mlL_135 : Cond.methodLink RL 135 yX3_kinds ∈ gw := gw_at 638 (by decide +kernel) rfl
theorem imX3_kinds : Cond.instanceMethod yX3_kinds ∈ gw := gw_at 639 (by decide +kernel) rfl
theorem seX3_kinds : Cond.selects (yX3_kinds).cls yX3_kinds yX3_kinds ∈ gw := gw_at 640 (by decide +kernel) rfl
theorem lkL_135 : LkV RL 135 yX3_kinds cX3_kinds 3 (some .int) 0 := ⟨mlL_135, imX3_kinds, seX3_kinds, ldX3_kinds⟩
theorem cdX4_kinds : Cond.code yX4_kinds cX4_kinds 3 (some .int) ∈ gw := gw_at 1048 (by decide +kernel) rfl
theorem ldX4_kinds : LkD yX4_kinds cX4_kinds 3 (some .int) 0 := ⟨iniX4, cdX4_kinds, by decide +kernel, by decide +kernel, by decide +kernel⟩
theorem mlL_138 : Cond.methodLink RL 138 yX4_kinds ∈ gw := gw_at 1045 (by decide +kernel) rfl
theorem imX4_kinds : Cond.instanceMethod yX4_kinds ∈ gw := gw_at 1046 (by decide +kernel) rfl
theorem seX4_kinds : Cond.selects (yX4_kinds).cls yX4_kinds yX4_kinds ∈ gw := gw_at 1047 (by decide +kernel) rfl
theorem lkL_138 : LkV RL 138 yX4_kinds cX4_kinds 3 (some .int) 0 := ⟨mlL_138, imX4_kinds, seX4_kinds, ldX4_kinds⟩
theorem cdX3_judge : Cond.code yX3_judge cX3_judge 2 (some .int) ∈ gw := gw_at 649 (by decide +kernel) rfl
theorem ldX3_judge : LkD yX3_judge cX3_judge 2 (some .int) 0 := ⟨iniX3, cdX3_judge, by decide +kernel, by decide +kernel, by decide +kernel⟩
theorem mlL_139 : Cond.methodLink RL 139 yX3_judge ∈ gw := gw_at 646 (by decide +kernel) rfl
theorem imX3_judge : Cond.instanceMethod yX3_judge ∈ gw := gw_at 647 (by decide +kernel) rfl
theorem seX3_judge : Cond.selects (yX3_judge).cls yX3_judge yX3_judge ∈ gw := gw_at 648 (by decide +kernel) rfl
theorem lkL_139 : LkV RL 139 yX3_judge cX3_judge 2 (some .int) 0 := ⟨mlL_139, imX3_judge, seX3_judge, ldX3_judge⟩
theorem cdX4_judge : Cond.code yX4_judge cX4_judge 2 (some .int) ∈ gw := gw_at 1056 (by decide +kernel) rfl
theorem ldX4_judge : LkD yX4_judge cX4_judge 2 (some .int) 0 := ⟨iniX4, cdX4_judge, by decide +kernel, by decide +kernel, by decide +kernel⟩
theorem mlL_142 : Cond.methodLink RL 142 yX4_judge ∈ gw := gw_at 1053 (by decide +kernel) rfl
theorem imX4_judge : Cond.instanceMethod yX4_judge ∈ gw := gw_at 1054 (by decide +kernel) rfl
theorem seX4_judge : Cond.selects (yX4_judge).cls yX4_judge yX4_judge ∈ gw := gw_at 1055 (by decide +kernel) rfl
theorem lkL_142 : LkV RL 142 yX4_judge cX4_judge 2 (some .int) 0 := ⟨mlL_142, imX4_judge, seX4_judge, ldX4_judge⟩
theorem cdX3_evenings : Cond.code yX3_evenings cX3_evenings 7 (some .int) ∈ gw := gw_at 653 (by decide +kernel) rfl
theorem ldX3_evenings : LkD yX3_evenings cX3_evenings 7 (some .int) 3 := ⟨iniX3, cdX3_evenings, by decide +kernel, by decide +kernel, by decide +kernel⟩
theorem mlL_143 : Cond.methodLink RL 143 yX3_evenings ∈ gw := gw_at 650 (by decide +kernel) rfl
theorem imX3_evenings : Cond.instanceMethod yX3_evenings ∈ gw := gw_at 651 (by decide +kernel) rfl
theorem seX3_evenings : Cond.selects (yX3_evenings).cls yX3_evenings yX3_evenings ∈ gw := gw_at 652 (by decide +kernel) rfl
theorem lkL_143 : LkV RL 143 yX3_evenings cX3_evenings 7 (some .int) 3 := ⟨mlL_143, imX3_evenings, seX3_evenings, ldX3_evenings⟩
theorem cdX4_evenings : Cond.code yX4_evenings cX4_evenings 8 (some .int) ∈ gw := gw_at 1060 (by decide +kernel) rfl
theorem ldX4_evenings : LkD yX4_evenings cX4_evenings 8 (some .int) 3 := ⟨iniX4, cdX4_evenings, by decide +kernel, by decide +kernel, by decide +kernel⟩
theorem mlL_146 : Cond.methodLink RL 146 yX4_evenings ∈ gw := gw_at 1057 (by decide +kernel) rfl
theorem imX4_evenings : Cond.instanceMethod yX4_evenings ∈ gw := gw_at 1058 (by decide +kernel) rfl
theorem seX4_evenings : Cond.selects (yX4_evenings).cls yX4_evenings yX4_evenings ∈ gw := gw_at 1059 (by decide +kernel) rfl
theorem lkL_146 : LkV RL 146 yX4_evenings cX4_evenings 8 (some .int) 3 := ⟨mlL_146, imX4_evenings, seX4_evenings, ldX4_evenings⟩
theorem cdX3_image : Cond.code yX3_image cX3_image 1 (some .int) ∈ gw := gw_at 660 (by decide +kernel) rfl
theorem ldX3_image : LkD yX3_image cX3_image 1 (some .int) 0 := ⟨iniX3, cdX3_image, by decide +kernel, by decide +kernel, by decide +kernel⟩
theorem mlL_147 : Cond.methodLink RL 147 yX3_image ∈ gw := gw_at 657 (by decide +kernel) rfl
theorem imX3_image : Cond.instanceMethod yX3_image ∈ gw := gw_at 658 (by decide +kernel) rfl
theorem seX3_image : Cond.selects (yX3_image).cls yX3_image yX3_image ∈ gw := gw_at 659 (by decide +kernel) rfl
theorem lkL_147 : LkV RL 147 yX3_image cX3_image 1 (some .int) 0 := ⟨mlL_147, imX3_image, seX3_image, ldX3_image⟩
theorem cdX4_image : Cond.code yX4_image cX4_image 1 (some .int) ∈ gw := gw_at 859 (by decide +kernel) rfl
theorem ldX4_image : LkD yX4_image cX4_image 1 (some .int) 0 := ⟨iniX4, cdX4_image, by decide +kernel, by decide +kernel, by decide +kernel⟩
theorem mlL_150 : Cond.methodLink RL 150 yX4_image ∈ gw := gw_at 856 (by decide +kernel) rfl
theorem imX4_image : Cond.instanceMethod yX4_image ∈ gw := gw_at 857 (by decide +kernel) rfl
theorem seX4_image : Cond.selects (yX4_image).cls yX4_image yX4_image ∈ gw := gw_at 858 (by decide +kernel) rfl
theorem lkL_150 : LkV RL 150 yX4_image cX4_image 1 (some .int) 0 := ⟨mlL_150, imX4_image, seX4_image, ldX4_image⟩
theorem cdX3_on : Cond.code yX3_on cX3_on 1 (some .int) ∈ gw := gw_at 664 (by decide +kernel) rfl
theorem ldX3_on : LkD yX3_on cX3_on 1 (some .int) 0 := ⟨iniX3, cdX3_on, by decide +kernel, by decide +kernel, by decide +kernel⟩
theorem mlL_151 : Cond.methodLink RL 151 yX3_on ∈ gw := gw_at 661 (by decide +kernel) rfl
theorem imX3_on : Cond.instanceMethod yX3_on ∈ gw := gw_at 662 (by decide +kernel) rfl
theorem seX3_on : Cond.selects (yX3_on).cls yX3_on yX3_on ∈ gw := gw_at 663 (by decide +kernel) rfl
theorem lkL_151 : LkV RL 151 yX3_on cX3_on 1 (some .int) 0 := ⟨mlL_151, imX3_on, seX3_on, ldX3_on⟩
theorem cdX4_on : Cond.code yX4_on cX4_on 1 (some .int) ∈ gw := gw_at 863 (by decide +kernel) rfl
theorem ldX4_on : LkD yX4_on cX4_on 1 (some .int) 0 := ⟨iniX4, cdX4_on, by decide +kernel, by decide +kernel, by decide +kernel⟩
theorem mlL_154 : Cond.methodLink RL 154 yX4_on ∈ gw := gw_at 860 (by decide +kernel) rfl
theorem imX4_on : Cond.instanceMethod yX4_on ∈ gw := gw_at 861 (by decide +kernel) rfl
theorem seX4_on : Cond.selects (yX4_on).cls yX4_on yX4_on ∈ gw := gw_at 862 (by decide +kernel) rfl
theorem lkL_154 : LkV RL 154 yX4_on cX4_on 1 (some .int) 0 := ⟨mlL_154, imX4_on, seX4_on, ldX4_on⟩
theorem cdX3_count : Cond.code yX3_count cX3_count 2 (some .int) ∈ gw := gw_at 668 (by decide +kernel) rfl
theorem ldX3_count : LkD yX3_count cX3_count 2 (some .int) 1 := ⟨iniX3, cdX3_count, by decide +kernel, by decide +kernel, by decide +kernel⟩
theorem mlL_155 : Cond.methodLink RL 155 yX3_count ∈ gw := gw_at 665 (by decide +kernel) rfl
theorem imX3_count : Cond.instanceMethod yX3_count ∈ gw := gw_at 666 (by decide +kernel) rfl
theorem seX3_count : Cond.selects (yX3_count).cls yX3_count yX3_count ∈ gw := gw_at 667 (by decide +kernel) rfl
theorem lkL_155 : LkV RL 155 yX3_count cX3_count 2 (some .int) 1 := ⟨mlL_155, imX3_count, seX3_count, ldX3_count⟩
theorem cdX4_count : Cond.code yX4_count cX4_count 4 (some .int) ∈ gw := gw_at 1067 (by decide +kernel) rfl
theorem ldX4_count : LkD yX4_count cX4_count 4 (some .int) 1 := ⟨iniX4, cdX4_count, by decide +kernel, by decide +kernel, by decide +kernel⟩
theorem mlL_158 : Cond.methodLink RL 158 yX4_count ∈ gw := gw_at 1064 (by decide +kernel) rfl
theorem imX4_count : Cond.instanceMethod yX4_count ∈ gw := gw_at 1065 (by decide +kernel) rfl
theorem seX4_count : Cond.selects (yX4_count).cls yX4_count yX4_count ∈ gw := gw_at 1066 (by decide +kernel) rfl
theorem lkL_158 : LkV RL 158 yX4_count cX4_count 4 (some .int) 1 := ⟨mlL_158, imX4_count, seX4_count, ldX4_count⟩
theorem gfX3_46 {X : Scr} {cc : ByteArray} {nL : Nat} {R : Room} {ri : Instr} {pc : Nat} {L : List (Nat × Value)} {st : List Value} {σ σ' : Sto} {r : Option Value} {kk : Nat} {fl : List (Option Nat)} {f : Nat} (hl : lay[kk]? = some (.inr (3, fl))) (hd : decode cc pc = .ok (.getfield 46, 3)) (k1 : Rt X RX3 cc nL R ri (pc + 3) L (.ref f :: st) σ r σ') (hj : fl[8]? = some (some f) := by rfl) : Rt X RX3 cc nL R ri pc L (.ref kk :: st) σ r σ' := Rt.getR hl rfl inX3g (by decide) hj flX3_46 hd k1
theorem gfX3_28 {X : Scr} {cc : ByteArray} {nL : Nat} {R : Room} {ri : Instr} {pc : Nat} {L : List (Nat × Value)} {st : List Value} {σ σ' : Sto} {r : Option Value} {kk : Nat} {fl : List (Option Nat)} {f : Nat} (hl : lay[kk]? = some (.inr (3, fl))) (hd : decode cc pc = .ok (.getfield 28, 3)) (k1 : Rt X RX3 cc nL R ri (pc + 3) L (.ref f :: st) σ r σ') (hj : fl[4]? = some (some f) := by rfl) : Rt X RX3 cc nL R ri pc L (.ref kk :: st) σ r σ' := Rt.getR hl rfl inX3g (by decide) hj flX3_28 hd k1
theorem gfX3_61 {X : Scr} {cc : ByteArray} {nL : Nat} {R : Room} {ri : Instr} {pc : Nat} {L : List (Nat × Value)} {st : List Value} {σ σ' : Sto} {r : Option Value} {kk : Nat} {fl : List (Option Nat)} (hl : lay[kk]? = some (.inr (2, fl))) (hd : decode cc pc = .ok (.getfield 61, 3)) (k1 : Rt X RX3 cc nL R ri (pc + 3) L (.int (σ kk 1) :: st) σ r σ') (hj : fl[1]? = some none := by rfl) : Rt X RX3 cc nL R ri pc L (.ref kk :: st) σ r σ' := Rt.getIN hl rfl inX2g (by decide) hj flX3_61 hd k1
theorem gfX2_15 {X : Scr} {cc : ByteArray} {nL : Nat} {R : Room} {ri : Instr} {pc : Nat} {L : List (Nat × Value)} {st : List Value} {σ σ' : Sto} {r : Option Value} {kk : Nat} {fl : List (Option Nat)} (hl : lay[kk]? = some (.inr (2, fl))) (hd : decode cc pc = .ok (.getfield 15, 3)) (k1 : Rt X RX2 cc nL R ri (pc + 3) L (.int (σ kk 1) :: st) σ r σ') (hj : fl[1]? = some none := by rfl) : Rt X RX2 cc nL R ri pc L (.ref kk :: st) σ r σ' := Rt.getI hl rfl inX2g (by decide) hj flX2_15 hd k1
theorem gfX2_9 {X : Scr} {cc : ByteArray} {nL : Nat} {R : Room} {ri : Instr} {pc : Nat} {L : List (Nat × Value)} {st : List Value} {σ σ' : Sto} {r : Option Value} {kk : Nat} {fl : List (Option Nat)} {f : Nat} (hl : lay[kk]? = some (.inr (2, fl))) (hd : decode cc pc = .ok (.getfield 9, 3)) (k1 : Rt X RX2 cc nL R ri (pc + 3) L (.ref f :: st) σ r σ') (hj : fl[0]? = some (some f) := by rfl) : Rt X RX2 cc nL R ri pc L (.ref kk :: st) σ r σ' := Rt.getR hl rfl inX2g (by decide) hj flX2_9 hd k1
theorem pfX2_15 {X : Scr} {cc : ByteArray} {nL : Nat} {R : Room} {ri : Instr} {pc : Nat} {L : List (Nat × Value)} {st : List Value} {σ σ' : Sto} {r : Option Value} {kk : Nat} {fl : List (Option Nat)} {x : Int32} (hl : lay[kk]? = some (.inr (2, fl))) (hd : decode cc pc = .ok (.putfield 15, 3)) (k1 : Rt X RX2 cc nL R ri (pc + 3) L st (upS σ kk 1 x) r σ') (hj : fl[1]? = some none := by rfl) : Rt X RX2 cc nL R ri pc L (.int x :: .ref kk :: st) σ r σ' := Rt.putI (ty := .int) hl rfl inX2g tyX2_ok nmX2 (by decide) hj rfl rfl rfl rfl flX2_15 hd k1
theorem gfX3_19 {X : Scr} {cc : ByteArray} {nL : Nat} {R : Room} {ri : Instr} {pc : Nat} {L : List (Nat × Value)} {st : List Value} {σ σ' : Sto} {r : Option Value} {kk : Nat} {fl : List (Option Nat)} {f : Nat} (hl : lay[kk]? = some (.inr (3, fl))) (hd : decode cc pc = .ok (.getfield 19, 3)) (k1 : Rt X RX3 cc nL R ri (pc + 3) L (.ref f :: st) σ r σ') (hj : fl[2]? = some (some f) := by rfl) : Rt X RX3 cc nL R ri pc L (.ref kk :: st) σ r σ' := Rt.getR hl rfl inX3g (by decide) hj flX3_19 hd k1
theorem gfX3_10 {X : Scr} {cc : ByteArray} {nL : Nat} {R : Room} {ri : Instr} {pc : Nat} {L : List (Nat × Value)} {st : List Value} {σ σ' : Sto} {r : Option Value} {kk : Nat} {fl : List (Option Nat)} {f : Nat} (hl : lay[kk]? = some (.inr (3, fl))) (hd : decode cc pc = .ok (.getfield 10, 3)) (k1 : Rt X RX3 cc nL R ri (pc + 3) L (.ref f :: st) σ r σ') (hj : fl[0]? = some (some f) := by rfl) : Rt X RX3 cc nL R ri pc L (.ref kk :: st) σ r σ' := Rt.getR hl rfl inX3g (by decide) hj flX3_10 hd k1
theorem gfX0_9 {X : Scr} {cc : ByteArray} {nL : Nat} {R : Room} {ri : Instr} {pc : Nat} {L : List (Nat × Value)} {st : List Value} {σ σ' : Sto} {r : Option Value} {kk : Nat} {fl : List (Option Nat)} {f : Nat} (hl : lay[kk]? = some (.inr (0, fl))) (hd : decode cc pc = .ok (.getfield 9, 3)) (k1 : Rt X RX0 cc nL R ri (pc + 3) L (.ref f :: st) σ r σ') (hj : fl[0]? = some (some f) := by rfl) : Rt X RX0 cc nL R ri pc L (.ref kk :: st) σ r σ' := Rt.getR hl rfl inX0g (by decide) hj flX0_9 hd k1
theorem gfX0_15 {X : Scr} {cc : ByteArray} {nL : Nat} {R : Room} {ri : Instr} {pc : Nat} {L : List (Nat × Value)} {st : List Value} {σ σ' : Sto} {r : Option Value} {kk : Nat} {fl : List (Option Nat)} (hl : lay[kk]? = some (.inr (0, fl))) (hd : decode cc pc = .ok (.getfield 15, 3)) (k1 : Rt X RX0 cc nL R ri (pc + 3) L (.int (σ kk 1) :: st) σ r σ') (hj : fl[1]? = some none := by rfl) : Rt X RX0 cc nL R ri pc L (.ref kk :: st) σ r σ' := Rt.getI hl rfl inX0g (by decide) hj flX0_15 hd k1
theorem pfX0_15 {X : Scr} {cc : ByteArray} {nL : Nat} {R : Room} {ri : Instr} {pc : Nat} {L : List (Nat × Value)} {st : List Value} {σ σ' : Sto} {r : Option Value} {kk : Nat} {fl : List (Option Nat)} {x : Int32} (hl : lay[kk]? = some (.inr (0, fl))) (hd : decode cc pc = .ok (.putfield 15, 3)) (k1 : Rt X RX0 cc nL R ri (pc + 3) L st (upS σ kk 1 x) r σ') (hj : fl[1]? = some none := by rfl) : Rt X RX0 cc nL R ri pc L (.int x :: .ref kk :: st) σ r σ' := Rt.putI (ty := .int) hl rfl inX0g tyX0_ok nmX0 (by decide) hj rfl rfl rfl rfl flX0_15 hd k1
theorem gfX0_19 {X : Scr} {cc : ByteArray} {nL : Nat} {R : Room} {ri : Instr} {pc : Nat} {L : List (Nat × Value)} {st : List Value} {σ σ' : Sto} {r : Option Value} {kk : Nat} {fl : List (Option Nat)} (hl : lay[kk]? = some (.inr (0, fl))) (hd : decode cc pc = .ok (.getfield 19, 3)) (k1 : Rt X RX0 cc nL R ri (pc + 3) L (.int (σ kk 2) :: st) σ r σ') (hj : fl[2]? = some none := by rfl) : Rt X RX0 cc nL R ri pc L (.ref kk :: st) σ r σ' := Rt.getI hl rfl inX0g (by decide) hj flX0_19 hd k1
theorem pfX0_19 {X : Scr} {cc : ByteArray} {nL : Nat} {R : Room} {ri : Instr} {pc : Nat} {L : List (Nat × Value)} {st : List Value} {σ σ' : Sto} {r : Option Value} {kk : Nat} {fl : List (Option Nat)} {x : Int32} (hl : lay[kk]? = some (.inr (0, fl))) (hd : decode cc pc = .ok (.putfield 19, 3)) (k1 : Rt X RX0 cc nL R ri (pc + 3) L st (upS σ kk 2 x) r σ') (hj : fl[2]? = some none := by rfl) : Rt X RX0 cc nL R ri pc L (.int x :: .ref kk :: st) σ r σ' := Rt.putI (ty := .int) hl rfl inX0g tyX0_ok nmX0 (by decide) hj rfl rfl rfl rfl flX0_19 hd k1
theorem gfX0_22 {X : Scr} {cc : ByteArray} {nL : Nat} {R : Room} {ri : Instr} {pc : Nat} {L : List (Nat × Value)} {st : List Value} {σ σ' : Sto} {r : Option Value} {kk : Nat} {fl : List (Option Nat)} (hl : lay[kk]? = some (.inr (0, fl))) (hd : decode cc pc = .ok (.getfield 22, 3)) (k1 : Rt X RX0 cc nL R ri (pc + 3) L (.int (σ kk 3) :: st) σ r σ') (hj : fl[3]? = some none := by rfl) : Rt X RX0 cc nL R ri pc L (.ref kk :: st) σ r σ' := Rt.getI hl rfl inX0g (by decide) hj flX0_22 hd k1
theorem pfX0_22 {X : Scr} {cc : ByteArray} {nL : Nat} {R : Room} {ri : Instr} {pc : Nat} {L : List (Nat × Value)} {st : List Value} {σ σ' : Sto} {r : Option Value} {kk : Nat} {fl : List (Option Nat)} {x : Int32} (hl : lay[kk]? = some (.inr (0, fl))) (hd : decode cc pc = .ok (.putfield 22, 3)) (k1 : Rt X RX0 cc nL R ri (pc + 3) L st (upS σ kk 3 x) r σ') (hj : fl[3]? = some none := by rfl) : Rt X RX0 cc nL R ri pc L (.int x :: .ref kk :: st) σ r σ' := Rt.putI (ty := .int) hl rfl inX0g tyX0_ok nmX0 (by decide) hj rfl rfl rfl rfl flX0_22 hd k1
theorem gfX0_25 {X : Scr} {cc : ByteArray} {nL : Nat} {R : Room} {ri : Instr} {pc : Nat} {L : List (Nat × Value)} {st : List Value} {σ σ' : Sto} {r : Option Value} {kk : Nat} {fl : List (Option Nat)} (hl : lay[kk]? = some (.inr (0, fl))) (hd : decode cc pc = .ok (.getfield 25, 3)) (k1 : Rt X RX0 cc nL R ri (pc + 3) L (.int (σ kk 4) :: st) σ r σ') (hj : fl[4]? = some none := by rfl) : Rt X RX0 cc nL R ri pc L (.ref kk :: st) σ r σ' := Rt.getI hl rfl inX0g (by decide) hj flX0_25 hd k1
theorem pfX0_25 {X : Scr} {cc : ByteArray} {nL : Nat} {R : Room} {ri : Instr} {pc : Nat} {L : List (Nat × Value)} {st : List Value} {σ σ' : Sto} {r : Option Value} {kk : Nat} {fl : List (Option Nat)} {x : Int32} (hl : lay[kk]? = some (.inr (0, fl))) (hd : decode cc pc = .ok (.putfield 25, 3)) (k1 : Rt X RX0 cc nL R ri (pc + 3) L st (upS σ kk 4 x) r σ') (hj : fl[4]? = some none := by rfl) : Rt X RX0 cc nL R ri pc L (.int x :: .ref kk :: st) σ r σ' := Rt.putI (ty := .int) hl rfl inX0g tyX0_ok nmX0 (by decide) hj rfl rfl rfl rfl flX0_25 hd k1
theorem gfX0_28 {X : Scr} {cc : ByteArray} {nL : Nat} {R : Room} {ri : Instr} {pc : Nat} {L : List (Nat × Value)} {st : List Value} {σ σ' : Sto} {r : Option Value} {kk : Nat} {fl : List (Option Nat)} (hl : lay[kk]? = some (.inr (0, fl))) (hd : decode cc pc = .ok (.getfield 28, 3)) (k1 : Rt X RX0 cc nL R ri (pc + 3) L (.int (σ kk 5) :: st) σ r σ') (hj : fl[5]? = some none := by rfl) : Rt X RX0 cc nL R ri pc L (.ref kk :: st) σ r σ' := Rt.getI hl rfl inX0g (by decide) hj flX0_28 hd k1
theorem pfX0_28 {X : Scr} {cc : ByteArray} {nL : Nat} {R : Room} {ri : Instr} {pc : Nat} {L : List (Nat × Value)} {st : List Value} {σ σ' : Sto} {r : Option Value} {kk : Nat} {fl : List (Option Nat)} {x : Int32} (hl : lay[kk]? = some (.inr (0, fl))) (hd : decode cc pc = .ok (.putfield 28, 3)) (k1 : Rt X RX0 cc nL R ri (pc + 3) L st (upS σ kk 5 x) r σ') (hj : fl[5]? = some none := by rfl) : Rt X RX0 cc nL R ri pc L (.int x :: .ref kk :: st) σ r σ' := Rt.putI (ty := .int) hl rfl inX0g tyX0_ok nmX0 (by decide) hj rfl rfl rfl rfl flX0_28 hd k1
theorem gfX0_31 {X : Scr} {cc : ByteArray} {nL : Nat} {R : Room} {ri : Instr} {pc : Nat} {L : List (Nat × Value)} {st : List Value} {σ σ' : Sto} {r : Option Value} {kk : Nat} {fl : List (Option Nat)} (hl : lay[kk]? = some (.inr (0, fl))) (hd : decode cc pc = .ok (.getfield 31, 3)) (k1 : Rt X RX0 cc nL R ri (pc + 3) L (.int (σ kk 6) :: st) σ r σ') (hj : fl[6]? = some none := by rfl) : Rt X RX0 cc nL R ri pc L (.ref kk :: st) σ r σ' := Rt.getI hl rfl inX0g (by decide) hj flX0_31 hd k1
theorem pfX0_31 {X : Scr} {cc : ByteArray} {nL : Nat} {R : Room} {ri : Instr} {pc : Nat} {L : List (Nat × Value)} {st : List Value} {σ σ' : Sto} {r : Option Value} {kk : Nat} {fl : List (Option Nat)} {x : Int32} (hl : lay[kk]? = some (.inr (0, fl))) (hd : decode cc pc = .ok (.putfield 31, 3)) (k1 : Rt X RX0 cc nL R ri (pc + 3) L st (upS σ kk 6 x) r σ') (hj : fl[6]? = some none := by rfl) : Rt X RX0 cc nL R ri pc L (.int x :: .ref kk :: st) σ r σ' := Rt.putI (ty := .int) hl rfl inX0g tyX0_ok nmX0 (by decide) hj rfl rfl rfl rfl flX0_31 hd k1
theorem gfX0_34 {X : Scr} {cc : ByteArray} {nL : Nat} {R : Room} {ri : Instr} {pc : Nat} {L : List (Nat × Value)} {st : List Value} {σ σ' : Sto} {r : Option Value} {kk : Nat} {fl : List (Option Nat)} (hl : lay[kk]? = some (.inr (0, fl))) (hd : decode cc pc = .ok (.getfield 34, 3)) (k1 : Rt X RX0 cc nL R ri (pc + 3) L (.int (σ kk 7) :: st) σ r σ') (hj : fl[7]? = some none := by rfl) : Rt X RX0 cc nL R ri pc L (.ref kk :: st) σ r σ' := Rt.getI hl rfl inX0g (by decide) hj flX0_34 hd k1
theorem pfX0_34 {X : Scr} {cc : ByteArray} {nL : Nat} {R : Room} {ri : Instr} {pc : Nat} {L : List (Nat × Value)} {st : List Value} {σ σ' : Sto} {r : Option Value} {kk : Nat} {fl : List (Option Nat)} {x : Int32} (hl : lay[kk]? = some (.inr (0, fl))) (hd : decode cc pc = .ok (.putfield 34, 3)) (k1 : Rt X RX0 cc nL R ri (pc + 3) L st (upS σ kk 7 x) r σ') (hj : fl[7]? = some none := by rfl) : Rt X RX0 cc nL R ri pc L (.int x :: .ref kk :: st) σ r σ' := Rt.putI (ty := .int) hl rfl inX0g tyX0_ok nmX0 (by decide) hj rfl rfl rfl rfl flX0_34 hd k1
theorem gfX0_37 {X : Scr} {cc : ByteArray} {nL : Nat} {R : Room} {ri : Instr} {pc : Nat} {L : List (Nat × Value)} {st : List Value} {σ σ' : Sto} {r : Option Value} {kk : Nat} {fl : List (Option Nat)} (hl : lay[kk]? = some (.inr (0, fl))) (hd : decode cc pc = .ok (.getfield 37, 3)) (k1 : Rt X RX0 cc nL R ri (pc + 3) L (.int (σ kk 8) :: st) σ r σ') (hj : fl[8]? = some none := by rfl) : Rt X RX0 cc nL R ri pc L (.ref kk :: st) σ r σ' := Rt.getI hl rfl inX0g (by decide) hj flX0_37 hd k1
theorem pfX0_37 {X : Scr} {cc : ByteArray} {nL : Nat} {R : Room} {ri : Instr} {pc : Nat} {L : List (Nat × Value)} {st : List Value} {σ σ' : Sto} {r : Option Value} {kk : Nat} {fl : List (Option Nat)} {x : Int32} (hl : lay[kk]? = some (.inr (0, fl))) (hd : decode cc pc = .ok (.putfield 37, 3)) (k1 : Rt X RX0 cc nL R ri (pc + 3) L st (upS σ kk 8 x) r σ') (hj : fl[8]? = some none := by rfl) : Rt X RX0 cc nL R ri pc L (.int x :: .ref kk :: st) σ r σ' := Rt.putI (ty := .int) hl rfl inX0g tyX0_ok nmX0 (by decide) hj rfl rfl rfl rfl flX0_37 hd k1
theorem pfX2_109 {X : Scr} {cc : ByteArray} {nL : Nat} {R : Room} {ri : Instr} {pc : Nat} {L : List (Nat × Value)} {st : List Value} {σ σ' : Sto} {r : Option Value} {kk : Nat} {fl : List (Option Nat)} {x : Int32} (hl : lay[kk]? = some (.inr (0, fl))) (hd : decode cc pc = .ok (.putfield 109, 3)) (k1 : Rt X RX2 cc nL R ri (pc + 3) L st (upS σ kk 5 x) r σ') (hj : fl[5]? = some none := by rfl) : Rt X RX2 cc nL R ri pc L (.int x :: .ref kk :: st) σ r σ' := Rt.putIN (ty := .int) hl rfl inX0g tyX0_ok nmX0 (by decide) hj rfl rfl rfl rfl flX2_109 hd k1
theorem pfX2_112 {X : Scr} {cc : ByteArray} {nL : Nat} {R : Room} {ri : Instr} {pc : Nat} {L : List (Nat × Value)} {st : List Value} {σ σ' : Sto} {r : Option Value} {kk : Nat} {fl : List (Option Nat)} {x : Int32} (hl : lay[kk]? = some (.inr (0, fl))) (hd : decode cc pc = .ok (.putfield 112, 3)) (k1 : Rt X RX2 cc nL R ri (pc + 3) L st (upS σ kk 6 x) r σ') (hj : fl[6]? = some none := by rfl) : Rt X RX2 cc nL R ri pc L (.int x :: .ref kk :: st) σ r σ' := Rt.putIN (ty := .int) hl rfl inX0g tyX0_ok nmX0 (by decide) hj rfl rfl rfl rfl flX2_112 hd k1
theorem pfX2_115 {X : Scr} {cc : ByteArray} {nL : Nat} {R : Room} {ri : Instr} {pc : Nat} {L : List (Nat × Value)} {st : List Value} {σ σ' : Sto} {r : Option Value} {kk : Nat} {fl : List (Option Nat)} {x : Int32} (hl : lay[kk]? = some (.inr (0, fl))) (hd : decode cc pc = .ok (.putfield 115, 3)) (k1 : Rt X RX2 cc nL R ri (pc + 3) L st (upS σ kk 7 x) r σ') (hj : fl[7]? = some none := by rfl) : Rt X RX2 cc nL R ri pc L (.int x :: .ref kk :: st) σ r σ' := Rt.putIN (ty := .int) hl rfl inX0g tyX0_ok nmX0 (by decide) hj rfl rfl rfl rfl flX2_115 hd k1
theorem pfX2_97 {X : Scr} {cc : ByteArray} {nL : Nat} {R : Room} {ri : Instr} {pc : Nat} {L : List (Nat × Value)} {st : List Value} {σ σ' : Sto} {r : Option Value} {kk : Nat} {fl : List (Option Nat)} {x : Int32} (hl : lay[kk]? = some (.inr (0, fl))) (hd : decode cc pc = .ok (.putfield 97, 3)) (k1 : Rt X RX2 cc nL R ri (pc + 3) L st (upS σ kk 1 x) r σ') (hj : fl[1]? = some none := by rfl) : Rt X RX2 cc nL R ri pc L (.int x :: .ref kk :: st) σ r σ' := Rt.putIN (ty := .int) hl rfl inX0g tyX0_ok nmX0 (by decide) hj rfl rfl rfl rfl flX2_97 hd k1
theorem pfX2_102 {X : Scr} {cc : ByteArray} {nL : Nat} {R : Room} {ri : Instr} {pc : Nat} {L : List (Nat × Value)} {st : List Value} {σ σ' : Sto} {r : Option Value} {kk : Nat} {fl : List (Option Nat)} {x : Int32} (hl : lay[kk]? = some (.inr (0, fl))) (hd : decode cc pc = .ok (.putfield 102, 3)) (k1 : Rt X RX2 cc nL R ri (pc + 3) L st (upS σ kk 2 x) r σ') (hj : fl[2]? = some none := by rfl) : Rt X RX2 cc nL R ri pc L (.int x :: .ref kk :: st) σ r σ' := Rt.putIN (ty := .int) hl rfl inX0g tyX0_ok nmX0 (by decide) hj rfl rfl rfl rfl flX2_102 hd k1
theorem pfX2_118 {X : Scr} {cc : ByteArray} {nL : Nat} {R : Room} {ri : Instr} {pc : Nat} {L : List (Nat × Value)} {st : List Value} {σ σ' : Sto} {r : Option Value} {kk : Nat} {fl : List (Option Nat)} {x : Int32} (hl : lay[kk]? = some (.inr (0, fl))) (hd : decode cc pc = .ok (.putfield 118, 3)) (k1 : Rt X RX2 cc nL R ri (pc + 3) L st (upS σ kk 8 x) r σ') (hj : fl[8]? = some none := by rfl) : Rt X RX2 cc nL R ri pc L (.int x :: .ref kk :: st) σ r σ' := Rt.putIN (ty := .int) hl rfl inX0g tyX0_ok nmX0 (by decide) hj rfl rfl rfl rfl flX2_118 hd k1
theorem gfX2_121 {X : Scr} {cc : ByteArray} {nL : Nat} {R : Room} {ri : Instr} {pc : Nat} {L : List (Nat × Value)} {st : List Value} {σ σ' : Sto} {r : Option Value} {kk : Nat} {fl : List (Option Nat)} (hl : lay[kk]? = some (.inr (0, fl))) (hd : decode cc pc = .ok (.getfield 121, 3)) (k1 : Rt X RX2 cc nL R ri (pc + 3) L (.int (σ kk 4) :: st) σ r σ') (hj : fl[4]? = some none := by rfl) : Rt X RX2 cc nL R ri pc L (.ref kk :: st) σ r σ' := Rt.getIN hl rfl inX0g (by decide) hj flX2_121 hd k1
theorem pfX3_61 {X : Scr} {cc : ByteArray} {nL : Nat} {R : Room} {ri : Instr} {pc : Nat} {L : List (Nat × Value)} {st : List Value} {σ σ' : Sto} {r : Option Value} {kk : Nat} {fl : List (Option Nat)} {x : Int32} (hl : lay[kk]? = some (.inr (2, fl))) (hd : decode cc pc = .ok (.putfield 61, 3)) (k1 : Rt X RX3 cc nL R ri (pc + 3) L st (upS σ kk 1 x) r σ') (hj : fl[1]? = some none := by rfl) : Rt X RX3 cc nL R ri pc L (.int x :: .ref kk :: st) σ r σ' := Rt.putIN (ty := .int) hl rfl inX2g tyX2_ok nmX2 (by decide) hj rfl rfl rfl rfl flX3_61 hd k1
theorem gfX3_82 {X : Scr} {cc : ByteArray} {nL : Nat} {R : Room} {ri : Instr} {pc : Nat} {L : List (Nat × Value)} {st : List Value} {σ σ' : Sto} {r : Option Value} {kk : Nat} {fl : List (Option Nat)} (hl : lay[kk]? = some (.inr (0, fl))) (hd : decode cc pc = .ok (.getfield 82, 3)) (k1 : Rt X RX3 cc nL R ri (pc + 3) L (.int (σ kk 2) :: st) σ r σ') (hj : fl[2]? = some none := by rfl) : Rt X RX3 cc nL R ri pc L (.ref kk :: st) σ r σ' := Rt.getIN hl rfl inX0g (by decide) hj flX3_82 hd k1
theorem gfX3_79 {X : Scr} {cc : ByteArray} {nL : Nat} {R : Room} {ri : Instr} {pc : Nat} {L : List (Nat × Value)} {st : List Value} {σ σ' : Sto} {r : Option Value} {kk : Nat} {fl : List (Option Nat)} (hl : lay[kk]? = some (.inr (0, fl))) (hd : decode cc pc = .ok (.getfield 79, 3)) (k1 : Rt X RX3 cc nL R ri (pc + 3) L (.int (σ kk 1) :: st) σ r σ') (hj : fl[1]? = some none := by rfl) : Rt X RX3 cc nL R ri pc L (.ref kk :: st) σ r σ' := Rt.getIN hl rfl inX0g (by decide) hj flX3_79 hd k1
theorem gfX3_106 {X : Scr} {cc : ByteArray} {nL : Nat} {R : Room} {ri : Instr} {pc : Nat} {L : List (Nat × Value)} {st : List Value} {σ σ' : Sto} {r : Option Value} {kk : Nat} {fl : List (Option Nat)} (hl : lay[kk]? = some (.inr (0, fl))) (hd : decode cc pc = .ok (.getfield 106, 3)) (k1 : Rt X RX3 cc nL R ri (pc + 3) L (.int (σ kk 4) :: st) σ r σ') (hj : fl[4]? = some none := by rfl) : Rt X RX3 cc nL R ri pc L (.ref kk :: st) σ r σ' := Rt.getIN hl rfl inX0g (by decide) hj flX3_106 hd k1
theorem gfX3_120 {X : Scr} {cc : ByteArray} {nL : Nat} {R : Room} {ri : Instr} {pc : Nat} {L : List (Nat × Value)} {st : List Value} {σ σ' : Sto} {r : Option Value} {kk : Nat} {fl : List (Option Nat)} (hl : lay[kk]? = some (.inr (0, fl))) (hd : decode cc pc = .ok (.getfield 120, 3)) (k1 : Rt X RX3 cc nL R ri (pc + 3) L (.int (σ kk 5) :: st) σ r σ') (hj : fl[5]? = some none := by rfl) : Rt X RX3 cc nL R ri pc L (.ref kk :: st) σ r σ' := Rt.getIN hl rfl inX0g (by decide) hj flX3_120 hd k1
theorem gfX3_123 {X : Scr} {cc : ByteArray} {nL : Nat} {R : Room} {ri : Instr} {pc : Nat} {L : List (Nat × Value)} {st : List Value} {σ σ' : Sto} {r : Option Value} {kk : Nat} {fl : List (Option Nat)} (hl : lay[kk]? = some (.inr (0, fl))) (hd : decode cc pc = .ok (.getfield 123, 3)) (k1 : Rt X RX3 cc nL R ri (pc + 3) L (.int (σ kk 7) :: st) σ r σ') (hj : fl[7]? = some none := by rfl) : Rt X RX3 cc nL R ri pc L (.ref kk :: st) σ r σ' := Rt.getIN hl rfl inX0g (by decide) hj flX3_123 hd k1
theorem pfX3_82 {X : Scr} {cc : ByteArray} {nL : Nat} {R : Room} {ri : Instr} {pc : Nat} {L : List (Nat × Value)} {st : List Value} {σ σ' : Sto} {r : Option Value} {kk : Nat} {fl : List (Option Nat)} {x : Int32} (hl : lay[kk]? = some (.inr (0, fl))) (hd : decode cc pc = .ok (.putfield 82, 3)) (k1 : Rt X RX3 cc nL R ri (pc + 3) L st (upS σ kk 2 x) r σ') (hj : fl[2]? = some none := by rfl) : Rt X RX3 cc nL R ri pc L (.int x :: .ref kk :: st) σ r σ' := Rt.putIN (ty := .int) hl rfl inX0g tyX0_ok nmX0 (by decide) hj rfl rfl rfl rfl flX3_82 hd k1
theorem pfX3_152 {X : Scr} {cc : ByteArray} {nL : Nat} {R : Room} {ri : Instr} {pc : Nat} {L : List (Nat × Value)} {st : List Value} {σ σ' : Sto} {r : Option Value} {kk : Nat} {fl : List (Option Nat)} {x : Int32} (hl : lay[kk]? = some (.inr (0, fl))) (hd : decode cc pc = .ok (.putfield 152, 3)) (k1 : Rt X RX3 cc nL R ri (pc + 3) L st (upS σ kk 6 x) r σ') (hj : fl[6]? = some none := by rfl) : Rt X RX3 cc nL R ri pc L (.int x :: .ref kk :: st) σ r σ' := Rt.putIN (ty := .int) hl rfl inX0g tyX0_ok nmX0 (by decide) hj rfl rfl rfl rfl flX3_152 hd k1
theorem pfX3_123 {X : Scr} {cc : ByteArray} {nL : Nat} {R : Room} {ri : Instr} {pc : Nat} {L : List (Nat × Value)} {st : List Value} {σ σ' : Sto} {r : Option Value} {kk : Nat} {fl : List (Option Nat)} {x : Int32} (hl : lay[kk]? = some (.inr (0, fl))) (hd : decode cc pc = .ok (.putfield 123, 3)) (k1 : Rt X RX3 cc nL R ri (pc + 3) L st (upS σ kk 7 x) r σ') (hj : fl[7]? = some none := by rfl) : Rt X RX3 cc nL R ri pc L (.int x :: .ref kk :: st) σ r σ' := Rt.putIN (ty := .int) hl rfl inX0g tyX0_ok nmX0 (by decide) hj rfl rfl rfl rfl flX3_123 hd k1
theorem gfX3_35 {X : Scr} {cc : ByteArray} {nL : Nat} {R : Room} {ri : Instr} {pc : Nat} {L : List (Nat × Value)} {st : List Value} {σ σ' : Sto} {r : Option Value} {kk : Nat} {fl : List (Option Nat)} {f : Nat} (hl : lay[kk]? = some (.inr (3, fl))) (hd : decode cc pc = .ok (.getfield 35, 3)) (k1 : Rt X RX3 cc nL R ri (pc + 3) L (.ref f :: st) σ r σ') (hj : fl[5]? = some (some f) := by rfl) : Rt X RX3 cc nL R ri pc L (.ref kk :: st) σ r σ' := Rt.getR hl rfl inX3g (by decide) hj flX3_35 hd k1
theorem gfX3_155 {X : Scr} {cc : ByteArray} {nL : Nat} {R : Room} {ri : Instr} {pc : Nat} {L : List (Nat × Value)} {st : List Value} {σ σ' : Sto} {r : Option Value} {kk : Nat} {fl : List (Option Nat)} (hl : lay[kk]? = some (.inr (1, fl))) (hd : decode cc pc = .ok (.getfield 155, 3)) (k1 : Rt X RX3 cc nL R ri (pc + 3) L (.int (σ kk 2) :: st) σ r σ') (hj : fl[2]? = some none := by rfl) : Rt X RX3 cc nL R ri pc L (.ref kk :: st) σ r σ' := Rt.getIN hl rfl inX1g (by decide) hj flX3_155 hd k1
theorem gfX1_18 {X : Scr} {cc : ByteArray} {nL : Nat} {R : Room} {ri : Instr} {pc : Nat} {L : List (Nat × Value)} {st : List Value} {σ σ' : Sto} {r : Option Value} {kk : Nat} {fl : List (Option Nat)} (hl : lay[kk]? = some (.inr (1, fl))) (hd : decode cc pc = .ok (.getfield 18, 3)) (k1 : Rt X RX1 cc nL R ri (pc + 3) L (.int (σ kk 2) :: st) σ r σ') (hj : fl[2]? = some none := by rfl) : Rt X RX1 cc nL R ri pc L (.ref kk :: st) σ r σ' := Rt.getI hl rfl inX1g (by decide) hj flX1_18 hd k1
theorem gfX1_9 {X : Scr} {cc : ByteArray} {nL : Nat} {R : Room} {ri : Instr} {pc : Nat} {L : List (Nat × Value)} {st : List Value} {σ σ' : Sto} {r : Option Value} {kk : Nat} {fl : List (Option Nat)} {f : Nat} (hl : lay[kk]? = some (.inr (1, fl))) (hd : decode cc pc = .ok (.getfield 9, 3)) (k1 : Rt X RX1 cc nL R ri (pc + 3) L (.ref f :: st) σ r σ') (hj : fl[0]? = some (some f) := by rfl) : Rt X RX1 cc nL R ri pc L (.ref kk :: st) σ r σ' := Rt.getR hl rfl inX1g (by decide) hj flX1_9 hd k1
theorem gfX1_15 {X : Scr} {cc : ByteArray} {nL : Nat} {R : Room} {ri : Instr} {pc : Nat} {L : List (Nat × Value)} {st : List Value} {σ σ' : Sto} {r : Option Value} {kk : Nat} {fl : List (Option Nat)} {f : Nat} (hl : lay[kk]? = some (.inr (1, fl))) (hd : decode cc pc = .ok (.getfield 15, 3)) (k1 : Rt X RX1 cc nL R ri (pc + 3) L (.ref f :: st) σ r σ') (hj : fl[1]? = some (some f) := by rfl) : Rt X RX1 cc nL R ri pc L (.ref kk :: st) σ r σ' := Rt.getR hl rfl inX1g (by decide) hj flX1_15 hd k1
theorem pfX1_18 {X : Scr} {cc : ByteArray} {nL : Nat} {R : Room} {ri : Instr} {pc : Nat} {L : List (Nat × Value)} {st : List Value} {σ σ' : Sto} {r : Option Value} {kk : Nat} {fl : List (Option Nat)} {x : Int32} (hl : lay[kk]? = some (.inr (1, fl))) (hd : decode cc pc = .ok (.putfield 18, 3)) (k1 : Rt X RX1 cc nL R ri (pc + 3) L st (upS σ kk 2 x) r σ') (hj : fl[2]? = some none := by rfl) : Rt X RX1 cc nL R ri pc L (.int x :: .ref kk :: st) σ r σ' := Rt.putI (ty := .int) hl rfl inX1g tyX1_ok nmX1 (by decide) hj rfl rfl rfl rfl flX1_18 hd k1
theorem pfX3_155 {X : Scr} {cc : ByteArray} {nL : Nat} {R : Room} {ri : Instr} {pc : Nat} {L : List (Nat × Value)} {st : List Value} {σ σ' : Sto} {r : Option Value} {kk : Nat} {fl : List (Option Nat)} {x : Int32} (hl : lay[kk]? = some (.inr (1, fl))) (hd : decode cc pc = .ok (.putfield 155, 3)) (k1 : Rt X RX3 cc nL R ri (pc + 3) L st (upS σ kk 2 x) r σ') (hj : fl[2]? = some none := by rfl) : Rt X RX3 cc nL R ri pc L (.int x :: .ref kk :: st) σ r σ' := Rt.putIN (ty := .int) hl rfl inX1g tyX1_ok nmX1 (by decide) hj rfl rfl rfl rfl flX3_155 hd k1
theorem gfX3_43 {X : Scr} {cc : ByteArray} {nL : Nat} {R : Room} {ri : Instr} {pc : Nat} {L : List (Nat × Value)} {st : List Value} {σ σ' : Sto} {r : Option Value} {kk : Nat} {fl : List (Option Nat)} {f : Nat} (hl : lay[kk]? = some (.inr (3, fl))) (hd : decode cc pc = .ok (.getfield 43, 3)) (k1 : Rt X RX3 cc nL R ri (pc + 3) L (.ref f :: st) σ r σ') (hj : fl[7]? = some (some f) := by rfl) : Rt X RX3 cc nL R ri pc L (.ref kk :: st) σ r σ' := Rt.getR hl rfl inX3g (by decide) hj flX3_43 hd k1
theorem gfX3_22 {X : Scr} {cc : ByteArray} {nL : Nat} {R : Room} {ri : Instr} {pc : Nat} {L : List (Nat × Value)} {st : List Value} {σ σ' : Sto} {r : Option Value} {kk : Nat} {fl : List (Option Nat)} {f : Nat} (hl : lay[kk]? = some (.inr (3, fl))) (hd : decode cc pc = .ok (.getfield 22, 3)) (k1 : Rt X RX3 cc nL R ri (pc + 3) L (.ref f :: st) σ r σ') (hj : fl[3]? = some (some f) := by rfl) : Rt X RX3 cc nL R ri pc L (.ref kk :: st) σ r σ' := Rt.getR hl rfl inX3g (by decide) hj flX3_22 hd k1
theorem gfX3_49 {X : Scr} {cc : ByteArray} {nL : Nat} {R : Room} {ri : Instr} {pc : Nat} {L : List (Nat × Value)} {st : List Value} {σ σ' : Sto} {r : Option Value} {kk : Nat} {fl : List (Option Nat)} (hl : lay[kk]? = some (.inr (3, fl))) (hd : decode cc pc = .ok (.getfield 49, 3)) (k1 : Rt X RX3 cc nL R ri (pc + 3) L (.int (σ kk 9) :: st) σ r σ') (hj : fl[9]? = some none := by rfl) : Rt X RX3 cc nL R ri pc L (.ref kk :: st) σ r σ' := Rt.getI hl rfl inX3g (by decide) hj flX3_49 hd k1
theorem gfX3_39 {X : Scr} {cc : ByteArray} {nL : Nat} {R : Room} {ri : Instr} {pc : Nat} {L : List (Nat × Value)} {st : List Value} {σ σ' : Sto} {r : Option Value} {kk : Nat} {fl : List (Option Nat)} {f : Nat} (hl : lay[kk]? = some (.inr (3, fl))) (hd : decode cc pc = .ok (.getfield 39, 3)) (k1 : Rt X RX3 cc nL R ri (pc + 3) L (.ref f :: st) σ r σ') (hj : fl[6]? = some (some f) := by rfl) : Rt X RX3 cc nL R ri pc L (.ref kk :: st) σ r σ' := Rt.getR hl rfl inX3g (by decide) hj flX3_39 hd k1
theorem pfX3_49 {X : Scr} {cc : ByteArray} {nL : Nat} {R : Room} {ri : Instr} {pc : Nat} {L : List (Nat × Value)} {st : List Value} {σ σ' : Sto} {r : Option Value} {kk : Nat} {fl : List (Option Nat)} {x : Int32} (hl : lay[kk]? = some (.inr (3, fl))) (hd : decode cc pc = .ok (.putfield 49, 3)) (k1 : Rt X RX3 cc nL R ri (pc + 3) L st (upS σ kk 9 x) r σ') (hj : fl[9]? = some none := by rfl) : Rt X RX3 cc nL R ri pc L (.int x :: .ref kk :: st) σ r σ' := Rt.putI (ty := .int) hl rfl inX3g tyX3_ok nmX3 (by decide) hj rfl rfl rfl rfl flX3_49 hd k1
theorem pfX3_79 {X : Scr} {cc : ByteArray} {nL : Nat} {R : Room} {ri : Instr} {pc : Nat} {L : List (Nat × Value)} {st : List Value} {σ σ' : Sto} {r : Option Value} {kk : Nat} {fl : List (Option Nat)} {x : Int32} (hl : lay[kk]? = some (.inr (0, fl))) (hd : decode cc pc = .ok (.putfield 79, 3)) (k1 : Rt X RX3 cc nL R ri (pc + 3) L st (upS σ kk 1 x) r σ') (hj : fl[1]? = some none := by rfl) : Rt X RX3 cc nL R ri pc L (.int x :: .ref kk :: st) σ r σ' := Rt.putIN (ty := .int) hl rfl inX0g tyX0_ok nmX0 (by decide) hj rfl rfl rfl rfl flX3_79 hd k1
theorem gfX3_187 {X : Scr} {cc : ByteArray} {nL : Nat} {R : Room} {ri : Instr} {pc : Nat} {L : List (Nat × Value)} {st : List Value} {σ σ' : Sto} {r : Option Value} {kk : Nat} {fl : List (Option Nat)} (hl : lay[kk]? = some (.inr (0, fl))) (hd : decode cc pc = .ok (.getfield 187, 3)) (k1 : Rt X RX3 cc nL R ri (pc + 3) L (.int (σ kk 3) :: st) σ r σ') (hj : fl[3]? = some none := by rfl) : Rt X RX3 cc nL R ri pc L (.ref kk :: st) σ r σ' := Rt.getIN hl rfl inX0g (by decide) hj flX3_187 hd k1
theorem pfX3_187 {X : Scr} {cc : ByteArray} {nL : Nat} {R : Room} {ri : Instr} {pc : Nat} {L : List (Nat × Value)} {st : List Value} {σ σ' : Sto} {r : Option Value} {kk : Nat} {fl : List (Option Nat)} {x : Int32} (hl : lay[kk]? = some (.inr (0, fl))) (hd : decode cc pc = .ok (.putfield 187, 3)) (k1 : Rt X RX3 cc nL R ri (pc + 3) L st (upS σ kk 3 x) r σ') (hj : fl[3]? = some none := by rfl) : Rt X RX3 cc nL R ri pc L (.int x :: .ref kk :: st) σ r σ' := Rt.putIN (ty := .int) hl rfl inX0g tyX0_ok nmX0 (by decide) hj rfl rfl rfl rfl flX3_187 hd k1
theorem gfX3_16 {X : Scr} {cc : ByteArray} {nL : Nat} {R : Room} {ri : Instr} {pc : Nat} {L : List (Nat × Value)} {st : List Value} {σ σ' : Sto} {r : Option Value} {kk : Nat} {fl : List (Option Nat)} {f : Nat} (hl : lay[kk]? = some (.inr (3, fl))) (hd : decode cc pc = .ok (.getfield 16, 3)) (k1 : Rt X RX3 cc nL R ri (pc + 3) L (.ref f :: st) σ r σ') (hj : fl[1]? = some (some f) := by rfl) : Rt X RX3 cc nL R ri pc L (.ref kk :: st) σ r σ' := Rt.getR hl rfl inX3g (by decide) hj flX3_16 hd k1
theorem pfX3_53 {X : Scr} {cc : ByteArray} {nL : Nat} {R : Room} {ri : Instr} {pc : Nat} {L : List (Nat × Value)} {st : List Value} {σ σ' : Sto} {r : Option Value} {kk : Nat} {fl : List (Option Nat)} {x : Int32} (hl : lay[kk]? = some (.inr (3, fl))) (hb : x = 0 ∨ x = 1) (hd : decode cc pc = .ok (.putfield 53, 3)) (k1 : Rt X RX3 cc nL R ri (pc + 3) L st (upS σ kk 10 x) r σ') (hj : fl[10]? = some none := by rfl) : Rt X RX3 cc nL R ri pc L (.int x :: .ref kk :: st) σ r σ' := Rt.putI (ty := .boolean) hl rfl inX3g tyX3_ok nmX3 (by decide) hj rfl rfl (by rcases hb with e | e <;> subst e <;> rfl) (by rcases hb with e | e <;> subst e <;> rfl) flX3_53 hd k1
theorem gfX3_53 {X : Scr} {cc : ByteArray} {nL : Nat} {R : Room} {ri : Instr} {pc : Nat} {L : List (Nat × Value)} {st : List Value} {σ σ' : Sto} {r : Option Value} {kk : Nat} {fl : List (Option Nat)} (hl : lay[kk]? = some (.inr (3, fl))) (hd : decode cc pc = .ok (.getfield 53, 3)) (k1 : Rt X RX3 cc nL R ri (pc + 3) L (.int (σ kk 10) :: st) σ r σ') (hj : fl[10]? = some none := by rfl) : Rt X RX3 cc nL R ri pc L (.ref kk :: st) σ r σ' := Rt.getI hl rfl inX3g (by decide) hj flX3_53 hd k1
theorem gfX3_152 {X : Scr} {cc : ByteArray} {nL : Nat} {R : Room} {ri : Instr} {pc : Nat} {L : List (Nat × Value)} {st : List Value} {σ σ' : Sto} {r : Option Value} {kk : Nat} {fl : List (Option Nat)} (hl : lay[kk]? = some (.inr (0, fl))) (hd : decode cc pc = .ok (.getfield 152, 3)) (k1 : Rt X RX3 cc nL R ri (pc + 3) L (.int (σ kk 6) :: st) σ r σ') (hj : fl[6]? = some none := by rfl) : Rt X RX3 cc nL R ri pc L (.ref kk :: st) σ r σ' := Rt.getIN hl rfl inX0g (by decide) hj flX3_152 hd k1
theorem gfX3_194 {X : Scr} {cc : ByteArray} {nL : Nat} {R : Room} {ri : Instr} {pc : Nat} {L : List (Nat × Value)} {st : List Value} {σ σ' : Sto} {r : Option Value} {kk : Nat} {fl : List (Option Nat)} (hl : lay[kk]? = some (.inr (0, fl))) (hd : decode cc pc = .ok (.getfield 194, 3)) (k1 : Rt X RX3 cc nL R ri (pc + 3) L (.int (σ kk 8) :: st) σ r σ') (hj : fl[8]? = some none := by rfl) : Rt X RX3 cc nL R ri pc L (.ref kk :: st) σ r σ' := Rt.getIN hl rfl inX0g (by decide) hj flX3_194 hd k1
theorem gfX4_19 {X : Scr} {cc : ByteArray} {nL : Nat} {R : Room} {ri : Instr} {pc : Nat} {L : List (Nat × Value)} {st : List Value} {σ σ' : Sto} {r : Option Value} {kk : Nat} {fl : List (Option Nat)} {f : Nat} (hl : lay[kk]? = some (.inr (4, fl))) (hd : decode cc pc = .ok (.getfield 19, 3)) (k1 : Rt X RX4 cc nL R ri (pc + 3) L (.ref f :: st) σ r σ') (hj : fl[7]? = some (some f) := by rfl) : Rt X RX4 cc nL R ri pc L (.ref kk :: st) σ r σ' := Rt.getR hl rfl inX4g (by decide) hj flX4_19 hd k1
theorem gfX4_56 {X : Scr} {cc : ByteArray} {nL : Nat} {R : Room} {ri : Instr} {pc : Nat} {L : List (Nat × Value)} {st : List Value} {σ σ' : Sto} {r : Option Value} {kk : Nat} {fl : List (Option Nat)} (hl : lay[kk]? = some (.inr (4, fl))) (hd : decode cc pc = .ok (.getfield 56, 3)) (k1 : Rt X RX4 cc nL R ri (pc + 3) L (.int (σ kk 11) :: st) σ r σ') (hj : fl[11]? = some none := by rfl) : Rt X RX4 cc nL R ri pc L (.ref kk :: st) σ r σ' := Rt.getI hl rfl inX4g (by decide) hj flX4_56 hd k1
theorem pfX4_56 {X : Scr} {cc : ByteArray} {nL : Nat} {R : Room} {ri : Instr} {pc : Nat} {L : List (Nat × Value)} {st : List Value} {σ σ' : Sto} {r : Option Value} {kk : Nat} {fl : List (Option Nat)} {x : Int32} (hl : lay[kk]? = some (.inr (4, fl))) (hd : decode cc pc = .ok (.putfield 56, 3)) (k1 : Rt X RX4 cc nL R ri (pc + 3) L st (upS σ kk 11 x) r σ') (hj : fl[11]? = some none := by rfl) : Rt X RX4 cc nL R ri pc L (.int x :: .ref kk :: st) σ r σ' := Rt.putI (ty := .int) hl rfl inX4g tyX4_ok nmX4 (by decide) hj rfl rfl rfl rfl flX4_56 hd k1
theorem gfX4_7 {X : Scr} {cc : ByteArray} {nL : Nat} {R : Room} {ri : Instr} {pc : Nat} {L : List (Nat × Value)} {st : List Value} {σ σ' : Sto} {r : Option Value} {kk : Nat} {fl : List (Option Nat)} {f : Nat} (hl : lay[kk]? = some (.inr (4, fl))) (hd : decode cc pc = .ok (.getfield 7, 3)) (k1 : Rt X RX4 cc nL R ri (pc + 3) L (.ref f :: st) σ r σ') (hj : fl[0]? = some (some f) := by rfl) : Rt X RX4 cc nL R ri pc L (.ref kk :: st) σ r σ' := Rt.getR hl rfl inX4g (by decide) hj flX4_7 hd k1
theorem pfX4_64 {X : Scr} {cc : ByteArray} {nL : Nat} {R : Room} {ri : Instr} {pc : Nat} {L : List (Nat × Value)} {st : List Value} {σ σ' : Sto} {r : Option Value} {kk : Nat} {fl : List (Option Nat)} {x : Int32} (hl : lay[kk]? = some (.inr (4, fl))) (hd : decode cc pc = .ok (.putfield 64, 3)) (k1 : Rt X RX4 cc nL R ri (pc + 3) L st (upS σ kk 12 x) r σ') (hj : fl[12]? = some none := by rfl) : Rt X RX4 cc nL R ri pc L (.int x :: .ref kk :: st) σ r σ' := Rt.putI (ty := .int) hl rfl inX4g tyX4_ok nmX4 (by decide) hj rfl rfl rfl rfl flX4_64 hd k1
theorem pfX4_86 {X : Scr} {cc : ByteArray} {nL : Nat} {R : Room} {ri : Instr} {pc : Nat} {L : List (Nat × Value)} {st : List Value} {σ σ' : Sto} {r : Option Value} {kk : Nat} {fl : List (Option Nat)} {x : Int32} (hl : lay[kk]? = some (.inr (4, fl))) (hd : decode cc pc = .ok (.putfield 86, 3)) (k1 : Rt X RX4 cc nL R ri (pc + 3) L st (upS σ kk 13 x) r σ') (hj : fl[13]? = some none := by rfl) : Rt X RX4 cc nL R ri pc L (.int x :: .ref kk :: st) σ r σ' := Rt.putI (ty := .int) hl rfl inX4g tyX4_ok nmX4 (by decide) hj rfl rfl rfl rfl flX4_86 hd k1
theorem pfX4_132 {X : Scr} {cc : ByteArray} {nL : Nat} {R : Room} {ri : Instr} {pc : Nat} {L : List (Nat × Value)} {st : List Value} {σ σ' : Sto} {r : Option Value} {kk : Nat} {fl : List (Option Nat)} {x : Int32} (hl : lay[kk]? = some (.inr (4, fl))) (hd : decode cc pc = .ok (.putfield 132, 3)) (k1 : Rt X RX4 cc nL R ri (pc + 3) L st (upS σ kk 17 x) r σ') (hj : fl[17]? = some none := by rfl) : Rt X RX4 cc nL R ri pc L (.int x :: .ref kk :: st) σ r σ' := Rt.putI (ty := .int) hl rfl inX4g tyX4_ok nmX4 (by decide) hj rfl rfl rfl rfl flX4_132 hd k1
theorem pfX4_128 {X : Scr} {cc : ByteArray} {nL : Nat} {R : Room} {ri : Instr} {pc : Nat} {L : List (Nat × Value)} {st : List Value} {σ σ' : Sto} {r : Option Value} {kk : Nat} {fl : List (Option Nat)} {x : Int32} (hl : lay[kk]? = some (.inr (4, fl))) (hb : x = 0 ∨ x = 1) (hd : decode cc pc = .ok (.putfield 128, 3)) (k1 : Rt X RX4 cc nL R ri (pc + 3) L st (upS σ kk 16 x) r σ') (hj : fl[16]? = some none := by rfl) : Rt X RX4 cc nL R ri pc L (.int x :: .ref kk :: st) σ r σ' := Rt.putI (ty := .boolean) hl rfl inX4g tyX4_ok nmX4 (by decide) hj rfl rfl (by rcases hb with e | e <;> subst e <;> rfl) (by rcases hb with e | e <;> subst e <;> rfl) flX4_128 hd k1
theorem gfX4_13 {X : Scr} {cc : ByteArray} {nL : Nat} {R : Room} {ri : Instr} {pc : Nat} {L : List (Nat × Value)} {st : List Value} {σ σ' : Sto} {r : Option Value} {kk : Nat} {fl : List (Option Nat)} {f : Nat} (hl : lay[kk]? = some (.inr (4, fl))) (hd : decode cc pc = .ok (.getfield 13, 3)) (k1 : Rt X RX4 cc nL R ri (pc + 3) L (.ref f :: st) σ r σ') (hj : fl[1]? = some (some f) := by rfl) : Rt X RX4 cc nL R ri pc L (.ref kk :: st) σ r σ' := Rt.getR hl rfl inX4g (by decide) hj flX4_13 hd k1
theorem gfX4_128 {X : Scr} {cc : ByteArray} {nL : Nat} {R : Room} {ri : Instr} {pc : Nat} {L : List (Nat × Value)} {st : List Value} {σ σ' : Sto} {r : Option Value} {kk : Nat} {fl : List (Option Nat)} (hl : lay[kk]? = some (.inr (4, fl))) (hd : decode cc pc = .ok (.getfield 128, 3)) (k1 : Rt X RX4 cc nL R ri (pc + 3) L (.int (σ kk 16) :: st) σ r σ') (hj : fl[16]? = some none := by rfl) : Rt X RX4 cc nL R ri pc L (.ref kk :: st) σ r σ' := Rt.getI hl rfl inX4g (by decide) hj flX4_128 hd k1
theorem gfX4_31 {X : Scr} {cc : ByteArray} {nL : Nat} {R : Room} {ri : Instr} {pc : Nat} {L : List (Nat × Value)} {st : List Value} {σ σ' : Sto} {r : Option Value} {kk : Nat} {fl : List (Option Nat)} {f : Nat} (hl : lay[kk]? = some (.inr (4, fl))) (hd : decode cc pc = .ok (.getfield 31, 3)) (k1 : Rt X RX4 cc nL R ri (pc + 3) L (.ref f :: st) σ r σ') (hj : fl[14]? = some (some f) := by rfl) : Rt X RX4 cc nL R ri pc L (.ref kk :: st) σ r σ' := Rt.getR hl rfl inX4g (by decide) hj flX4_31 hd k1
theorem gfX4_132 {X : Scr} {cc : ByteArray} {nL : Nat} {R : Room} {ri : Instr} {pc : Nat} {L : List (Nat × Value)} {st : List Value} {σ σ' : Sto} {r : Option Value} {kk : Nat} {fl : List (Option Nat)} (hl : lay[kk]? = some (.inr (4, fl))) (hd : decode cc pc = .ok (.getfield 132, 3)) (k1 : Rt X RX4 cc nL R ri (pc + 3) L (.int (σ kk 17) :: st) σ r σ') (hj : fl[17]? = some none := by rfl) : Rt X RX4 cc nL R ri pc L (.ref kk :: st) σ r σ' := Rt.getI hl rfl inX4g (by decide) hj flX4_132 hd k1
theorem gfX4_16 {X : Scr} {cc : ByteArray} {nL : Nat} {R : Room} {ri : Instr} {pc : Nat} {L : List (Nat × Value)} {st : List Value} {σ σ' : Sto} {r : Option Value} {kk : Nat} {fl : List (Option Nat)} {f : Nat} (hl : lay[kk]? = some (.inr (4, fl))) (hd : decode cc pc = .ok (.getfield 16, 3)) (k1 : Rt X RX4 cc nL R ri (pc + 3) L (.ref f :: st) σ r σ') (hj : fl[2]? = some (some f) := by rfl) : Rt X RX4 cc nL R ri pc L (.ref kk :: st) σ r σ' := Rt.getR hl rfl inX4g (by decide) hj flX4_16 hd k1
theorem gfX4_98 {X : Scr} {cc : ByteArray} {nL : Nat} {R : Room} {ri : Instr} {pc : Nat} {L : List (Nat × Value)} {st : List Value} {σ σ' : Sto} {r : Option Value} {kk : Nat} {fl : List (Option Nat)} (hl : lay[kk]? = some (.inr (4, fl))) (hd : decode cc pc = .ok (.getfield 98, 3)) (k1 : Rt X RX4 cc nL R ri (pc + 3) L (.int (σ kk 3) :: st) σ r σ') (hj : fl[3]? = some none := by rfl) : Rt X RX4 cc nL R ri pc L (.ref kk :: st) σ r σ' := Rt.getI hl rfl inX4g (by decide) hj flX4_98 hd k1
theorem pfX4_98 {X : Scr} {cc : ByteArray} {nL : Nat} {R : Room} {ri : Instr} {pc : Nat} {L : List (Nat × Value)} {st : List Value} {σ σ' : Sto} {r : Option Value} {kk : Nat} {fl : List (Option Nat)} {x : Int32} (hl : lay[kk]? = some (.inr (4, fl))) (hd : decode cc pc = .ok (.putfield 98, 3)) (k1 : Rt X RX4 cc nL R ri (pc + 3) L st (upS σ kk 3 x) r σ') (hj : fl[3]? = some none := by rfl) : Rt X RX4 cc nL R ri pc L (.int x :: .ref kk :: st) σ r σ' := Rt.putI (ty := .int) hl rfl inX4g tyX4_ok nmX4 (by decide) hj rfl rfl rfl rfl flX4_98 hd k1
theorem gfX4_101 {X : Scr} {cc : ByteArray} {nL : Nat} {R : Room} {ri : Instr} {pc : Nat} {L : List (Nat × Value)} {st : List Value} {σ σ' : Sto} {r : Option Value} {kk : Nat} {fl : List (Option Nat)} (hl : lay[kk]? = some (.inr (4, fl))) (hd : decode cc pc = .ok (.getfield 101, 3)) (k1 : Rt X RX4 cc nL R ri (pc + 3) L (.int (σ kk 4) :: st) σ r σ') (hj : fl[4]? = some none := by rfl) : Rt X RX4 cc nL R ri pc L (.ref kk :: st) σ r σ' := Rt.getI hl rfl inX4g (by decide) hj flX4_101 hd k1
theorem pfX4_101 {X : Scr} {cc : ByteArray} {nL : Nat} {R : Room} {ri : Instr} {pc : Nat} {L : List (Nat × Value)} {st : List Value} {σ σ' : Sto} {r : Option Value} {kk : Nat} {fl : List (Option Nat)} {x : Int32} (hl : lay[kk]? = some (.inr (4, fl))) (hd : decode cc pc = .ok (.putfield 101, 3)) (k1 : Rt X RX4 cc nL R ri (pc + 3) L st (upS σ kk 4 x) r σ') (hj : fl[4]? = some none := by rfl) : Rt X RX4 cc nL R ri pc L (.int x :: .ref kk :: st) σ r σ' := Rt.putI (ty := .int) hl rfl inX4g tyX4_ok nmX4 (by decide) hj rfl rfl rfl rfl flX4_101 hd k1
theorem gfX4_142 {X : Scr} {cc : ByteArray} {nL : Nat} {R : Room} {ri : Instr} {pc : Nat} {L : List (Nat × Value)} {st : List Value} {σ σ' : Sto} {r : Option Value} {kk : Nat} {fl : List (Option Nat)} (hl : lay[kk]? = some (.inr (4, fl))) (hd : decode cc pc = .ok (.getfield 142, 3)) (k1 : Rt X RX4 cc nL R ri (pc + 3) L (.int (σ kk 5) :: st) σ r σ') (hj : fl[5]? = some none := by rfl) : Rt X RX4 cc nL R ri pc L (.ref kk :: st) σ r σ' := Rt.getI hl rfl inX4g (by decide) hj flX4_142 hd k1
theorem pfX4_142 {X : Scr} {cc : ByteArray} {nL : Nat} {R : Room} {ri : Instr} {pc : Nat} {L : List (Nat × Value)} {st : List Value} {σ σ' : Sto} {r : Option Value} {kk : Nat} {fl : List (Option Nat)} {x : Int32} (hl : lay[kk]? = some (.inr (4, fl))) (hd : decode cc pc = .ok (.putfield 142, 3)) (k1 : Rt X RX4 cc nL R ri (pc + 3) L st (upS σ kk 5 x) r σ') (hj : fl[5]? = some none := by rfl) : Rt X RX4 cc nL R ri pc L (.int x :: .ref kk :: st) σ r σ' := Rt.putI (ty := .int) hl rfl inX4g tyX4_ok nmX4 (by decide) hj rfl rfl rfl rfl flX4_142 hd k1
theorem gfX4_110 {X : Scr} {cc : ByteArray} {nL : Nat} {R : Room} {ri : Instr} {pc : Nat} {L : List (Nat × Value)} {st : List Value} {σ σ' : Sto} {r : Option Value} {kk : Nat} {fl : List (Option Nat)} (hl : lay[kk]? = some (.inr (4, fl))) (hd : decode cc pc = .ok (.getfield 110, 3)) (k1 : Rt X RX4 cc nL R ri (pc + 3) L (.int (σ kk 6) :: st) σ r σ') (hj : fl[6]? = some none := by rfl) : Rt X RX4 cc nL R ri pc L (.ref kk :: st) σ r σ' := Rt.getI hl rfl inX4g (by decide) hj flX4_110 hd k1
theorem pfX4_110 {X : Scr} {cc : ByteArray} {nL : Nat} {R : Room} {ri : Instr} {pc : Nat} {L : List (Nat × Value)} {st : List Value} {σ σ' : Sto} {r : Option Value} {kk : Nat} {fl : List (Option Nat)} {x : Int32} (hl : lay[kk]? = some (.inr (4, fl))) (hd : decode cc pc = .ok (.putfield 110, 3)) (k1 : Rt X RX4 cc nL R ri (pc + 3) L st (upS σ kk 6 x) r σ') (hj : fl[6]? = some none := by rfl) : Rt X RX4 cc nL R ri pc L (.int x :: .ref kk :: st) σ r σ' := Rt.putI (ty := .int) hl rfl inX4g tyX4_ok nmX4 (by decide) hj rfl rfl rfl rfl flX4_110 hd k1
theorem gfX4_86 {X : Scr} {cc : ByteArray} {nL : Nat} {R : Room} {ri : Instr} {pc : Nat} {L : List (Nat × Value)} {st : List Value} {σ σ' : Sto} {r : Option Value} {kk : Nat} {fl : List (Option Nat)} (hl : lay[kk]? = some (.inr (4, fl))) (hd : decode cc pc = .ok (.getfield 86, 3)) (k1 : Rt X RX4 cc nL R ri (pc + 3) L (.int (σ kk 13) :: st) σ r σ') (hj : fl[13]? = some none := by rfl) : Rt X RX4 cc nL R ri pc L (.ref kk :: st) σ r σ' := Rt.getI hl rfl inX4g (by decide) hj flX4_86 hd k1
theorem gfX4_22 {X : Scr} {cc : ByteArray} {nL : Nat} {R : Room} {ri : Instr} {pc : Nat} {L : List (Nat × Value)} {st : List Value} {σ σ' : Sto} {r : Option Value} {kk : Nat} {fl : List (Option Nat)} {f : Nat} (hl : lay[kk]? = some (.inr (4, fl))) (hd : decode cc pc = .ok (.getfield 22, 3)) (k1 : Rt X RX4 cc nL R ri (pc + 3) L (.ref f :: st) σ r σ') (hj : fl[8]? = some (some f) := by rfl) : Rt X RX4 cc nL R ri pc L (.ref kk :: st) σ r σ' := Rt.getR hl rfl inX4g (by decide) hj flX4_22 hd k1
theorem gfX4_28 {X : Scr} {cc : ByteArray} {nL : Nat} {R : Room} {ri : Instr} {pc : Nat} {L : List (Nat × Value)} {st : List Value} {σ σ' : Sto} {r : Option Value} {kk : Nat} {fl : List (Option Nat)} {f : Nat} (hl : lay[kk]? = some (.inr (4, fl))) (hd : decode cc pc = .ok (.getfield 28, 3)) (k1 : Rt X RX4 cc nL R ri (pc + 3) L (.ref f :: st) σ r σ') (hj : fl[10]? = some (some f) := by rfl) : Rt X RX4 cc nL R ri pc L (.ref kk :: st) σ r σ' := Rt.getR hl rfl inX4g (by decide) hj flX4_28 hd k1
theorem gfX4_25 {X : Scr} {cc : ByteArray} {nL : Nat} {R : Room} {ri : Instr} {pc : Nat} {L : List (Nat × Value)} {st : List Value} {σ σ' : Sto} {r : Option Value} {kk : Nat} {fl : List (Option Nat)} {f : Nat} (hl : lay[kk]? = some (.inr (4, fl))) (hd : decode cc pc = .ok (.getfield 25, 3)) (k1 : Rt X RX4 cc nL R ri (pc + 3) L (.ref f :: st) σ r σ') (hj : fl[9]? = some (some f) := by rfl) : Rt X RX4 cc nL R ri pc L (.ref kk :: st) σ r σ' := Rt.getR hl rfl inX4g (by decide) hj flX4_25 hd k1
theorem gfX4_64 {X : Scr} {cc : ByteArray} {nL : Nat} {R : Room} {ri : Instr} {pc : Nat} {L : List (Nat × Value)} {st : List Value} {σ σ' : Sto} {r : Option Value} {kk : Nat} {fl : List (Option Nat)} (hl : lay[kk]? = some (.inr (4, fl))) (hd : decode cc pc = .ok (.getfield 64, 3)) (k1 : Rt X RX4 cc nL R ri (pc + 3) L (.int (σ kk 12) :: st) σ r σ') (hj : fl[12]? = some none := by rfl) : Rt X RX4 cc nL R ri pc L (.ref kk :: st) σ r σ' := Rt.getI hl rfl inX4g (by decide) hj flX4_64 hd k1
theorem pfX4_182 {X : Scr} {cc : ByteArray} {nL : Nat} {R : Room} {ri : Instr} {pc : Nat} {L : List (Nat × Value)} {st : List Value} {σ σ' : Sto} {r : Option Value} {kk : Nat} {fl : List (Option Nat)} {x : Int32} (hl : lay[kk]? = some (.inr (4, fl))) (hd : decode cc pc = .ok (.putfield 182, 3)) (k1 : Rt X RX4 cc nL R ri (pc + 3) L st (upS σ kk 18 x) r σ') (hj : fl[18]? = some none := by rfl) : Rt X RX4 cc nL R ri pc L (.int x :: .ref kk :: st) σ r σ' := Rt.putI (ty := .int) hl rfl inX4g tyX4_ok nmX4 (by decide) hj rfl rfl rfl rfl flX4_182 hd k1
theorem pfX4_185 {X : Scr} {cc : ByteArray} {nL : Nat} {R : Room} {ri : Instr} {pc : Nat} {L : List (Nat × Value)} {st : List Value} {σ σ' : Sto} {r : Option Value} {kk : Nat} {fl : List (Option Nat)} {x : Int32} (hl : lay[kk]? = some (.inr (4, fl))) (hd : decode cc pc = .ok (.putfield 185, 3)) (k1 : Rt X RX4 cc nL R ri (pc + 3) L st (upS σ kk 19 x) r σ') (hj : fl[19]? = some none := by rfl) : Rt X RX4 cc nL R ri pc L (.int x :: .ref kk :: st) σ r σ' := Rt.putI (ty := .int) hl rfl inX4g tyX4_ok nmX4 (by decide) hj rfl rfl rfl rfl flX4_185 hd k1
theorem gfX4_182 {X : Scr} {cc : ByteArray} {nL : Nat} {R : Room} {ri : Instr} {pc : Nat} {L : List (Nat × Value)} {st : List Value} {σ σ' : Sto} {r : Option Value} {kk : Nat} {fl : List (Option Nat)} (hl : lay[kk]? = some (.inr (4, fl))) (hd : decode cc pc = .ok (.getfield 182, 3)) (k1 : Rt X RX4 cc nL R ri (pc + 3) L (.int (σ kk 18) :: st) σ r σ') (hj : fl[18]? = some none := by rfl) : Rt X RX4 cc nL R ri pc L (.ref kk :: st) σ r σ' := Rt.getI hl rfl inX4g (by decide) hj flX4_182 hd k1
theorem gfX4_185 {X : Scr} {cc : ByteArray} {nL : Nat} {R : Room} {ri : Instr} {pc : Nat} {L : List (Nat × Value)} {st : List Value} {σ σ' : Sto} {r : Option Value} {kk : Nat} {fl : List (Option Nat)} (hl : lay[kk]? = some (.inr (4, fl))) (hd : decode cc pc = .ok (.getfield 185, 3)) (k1 : Rt X RX4 cc nL R ri (pc + 3) L (.int (σ kk 19) :: st) σ r σ') (hj : fl[19]? = some none := by rfl) : Rt X RX4 cc nL R ri pc L (.ref kk :: st) σ r σ' := Rt.getI hl rfl inX4g (by decide) hj flX4_185 hd k1
theorem gfX4_208 {X : Scr} {cc : ByteArray} {nL : Nat} {R : Room} {ri : Instr} {pc : Nat} {L : List (Nat × Value)} {st : List Value} {σ σ' : Sto} {r : Option Value} {kk : Nat} {fl : List (Option Nat)} (hl : lay[kk]? = some (.inr (4, fl))) (hd : decode cc pc = .ok (.getfield 208, 3)) (k1 : Rt X RX4 cc nL R ri (pc + 3) L (.int (σ kk 23) :: st) σ r σ') (hj : fl[23]? = some none := by rfl) : Rt X RX4 cc nL R ri pc L (.ref kk :: st) σ r σ' := Rt.getI hl rfl inX4g (by decide) hj flX4_208 hd k1
theorem gfX4_34 {X : Scr} {cc : ByteArray} {nL : Nat} {R : Room} {ri : Instr} {pc : Nat} {L : List (Nat × Value)} {st : List Value} {σ σ' : Sto} {r : Option Value} {kk : Nat} {fl : List (Option Nat)} {f : Nat} (hl : lay[kk]? = some (.inr (4, fl))) (hd : decode cc pc = .ok (.getfield 34, 3)) (k1 : Rt X RX4 cc nL R ri (pc + 3) L (.ref f :: st) σ r σ') (hj : fl[20]? = some (some f) := by rfl) : Rt X RX4 cc nL R ri pc L (.ref kk :: st) σ r σ' := Rt.getR hl rfl inX4g (by decide) hj flX4_34 hd k1
theorem gfX4_37 {X : Scr} {cc : ByteArray} {nL : Nat} {R : Room} {ri : Instr} {pc : Nat} {L : List (Nat × Value)} {st : List Value} {σ σ' : Sto} {r : Option Value} {kk : Nat} {fl : List (Option Nat)} {f : Nat} (hl : lay[kk]? = some (.inr (4, fl))) (hd : decode cc pc = .ok (.getfield 37, 3)) (k1 : Rt X RX4 cc nL R ri (pc + 3) L (.ref f :: st) σ r σ') (hj : fl[21]? = some (some f) := by rfl) : Rt X RX4 cc nL R ri pc L (.ref kk :: st) σ r σ' := Rt.getR hl rfl inX4g (by decide) hj flX4_37 hd k1
theorem pfX4_208 {X : Scr} {cc : ByteArray} {nL : Nat} {R : Room} {ri : Instr} {pc : Nat} {L : List (Nat × Value)} {st : List Value} {σ σ' : Sto} {r : Option Value} {kk : Nat} {fl : List (Option Nat)} {x : Int32} (hl : lay[kk]? = some (.inr (4, fl))) (hd : decode cc pc = .ok (.putfield 208, 3)) (k1 : Rt X RX4 cc nL R ri (pc + 3) L st (upS σ kk 23 x) r σ') (hj : fl[23]? = some none := by rfl) : Rt X RX4 cc nL R ri pc L (.int x :: .ref kk :: st) σ r σ' := Rt.putI (ty := .int) hl rfl inX4g tyX4_ok nmX4 (by decide) hj rfl rfl rfl rfl flX4_208 hd k1
theorem gfX4_40 {X : Scr} {cc : ByteArray} {nL : Nat} {R : Room} {ri : Instr} {pc : Nat} {L : List (Nat × Value)} {st : List Value} {σ σ' : Sto} {r : Option Value} {kk : Nat} {fl : List (Option Nat)} {f : Nat} (hl : lay[kk]? = some (.inr (4, fl))) (hd : decode cc pc = .ok (.getfield 40, 3)) (k1 : Rt X RX4 cc nL R ri (pc + 3) L (.ref f :: st) σ r σ') (hj : fl[22]? = some (some f) := by rfl) : Rt X RX4 cc nL R ri pc L (.ref kk :: st) σ r σ' := Rt.getR hl rfl inX4g (by decide) hj flX4_40 hd k1
theorem gfX4_43 {X : Scr} {cc : ByteArray} {nL : Nat} {R : Room} {ri : Instr} {pc : Nat} {L : List (Nat × Value)} {st : List Value} {σ σ' : Sto} {r : Option Value} {kk : Nat} {fl : List (Option Nat)} {f : Nat} (hl : lay[kk]? = some (.inr (4, fl))) (hd : decode cc pc = .ok (.getfield 43, 3)) (k1 : Rt X RX4 cc nL R ri (pc + 3) L (.ref f :: st) σ r σ') (hj : fl[24]? = some (some f) := by rfl) : Rt X RX4 cc nL R ri pc L (.ref kk :: st) σ r σ' := Rt.getR hl rfl inX4g (by decide) hj flX4_43 hd k1
theorem gfX4_237 {X : Scr} {cc : ByteArray} {nL : Nat} {R : Room} {ri : Instr} {pc : Nat} {L : List (Nat × Value)} {st : List Value} {σ σ' : Sto} {r : Option Value} {kk : Nat} {fl : List (Option Nat)} (hl : lay[kk]? = some (.inr (4, fl))) (hd : decode cc pc = .ok (.getfield 237, 3)) (k1 : Rt X RX4 cc nL R ri (pc + 3) L (.int (σ kk 25) :: st) σ r σ') (hj : fl[25]? = some none := by rfl) : Rt X RX4 cc nL R ri pc L (.ref kk :: st) σ r σ' := Rt.getI hl rfl inX4g (by decide) hj flX4_237 hd k1
theorem pfX4_237 {X : Scr} {cc : ByteArray} {nL : Nat} {R : Room} {ri : Instr} {pc : Nat} {L : List (Nat × Value)} {st : List Value} {σ σ' : Sto} {r : Option Value} {kk : Nat} {fl : List (Option Nat)} {x : Int32} (hl : lay[kk]? = some (.inr (4, fl))) (hd : decode cc pc = .ok (.putfield 237, 3)) (k1 : Rt X RX4 cc nL R ri (pc + 3) L st (upS σ kk 25 x) r σ') (hj : fl[25]? = some none := by rfl) : Rt X RX4 cc nL R ri pc L (.int x :: .ref kk :: st) σ r σ' := Rt.putI (ty := .int) hl rfl inX4g tyX4_ok nmX4 (by decide) hj rfl rfl rfl rfl flX4_237 hd k1
theorem pfX4_145 {X : Scr} {cc : ByteArray} {nL : Nat} {R : Room} {ri : Instr} {pc : Nat} {L : List (Nat × Value)} {st : List Value} {σ σ' : Sto} {r : Option Value} {kk : Nat} {fl : List (Option Nat)} {x : Int32} (hl : lay[kk]? = some (.inr (4, fl))) (hb : x = 0 ∨ x = 1) (hd : decode cc pc = .ok (.putfield 145, 3)) (k1 : Rt X RX4 cc nL R ri (pc + 3) L st (upS σ kk 15 x) r σ') (hj : fl[15]? = some none := by rfl) : Rt X RX4 cc nL R ri pc L (.int x :: .ref kk :: st) σ r σ' := Rt.putI (ty := .boolean) hl rfl inX4g tyX4_ok nmX4 (by decide) hj rfl rfl (by rcases hb with e | e <;> subst e <;> rfl) (by rcases hb with e | e <;> subst e <;> rfl) flX4_145 hd k1
theorem gfX4_145 {X : Scr} {cc : ByteArray} {nL : Nat} {R : Room} {ri : Instr} {pc : Nat} {L : List (Nat × Value)} {st : List Value} {σ σ' : Sto} {r : Option Value} {kk : Nat} {fl : List (Option Nat)} (hl : lay[kk]? = some (.inr (4, fl))) (hd : decode cc pc = .ok (.getfield 145, 3)) (k1 : Rt X RX4 cc nL R ri (pc + 3) L (.int (σ kk 15) :: st) σ r σ') (hj : fl[15]? = some none := by rfl) : Rt X RX4 cc nL R ri pc L (.ref kk :: st) σ r σ' := Rt.getI hl rfl inX4g (by decide) hj flX4_145 hd k1
