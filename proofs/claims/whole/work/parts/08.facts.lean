theorem ws_gw (ws : List Cond) (ps : List Nat) (hp : ws = ps.filterMap (fun i => lw_tbl[i]?)) (h : ws.all goodWord = true) : ∀ w ∈ ws, w ∈ gw := by
  intro w hw
  have h1 := List.all_eq_true.mp h w hw
  rw [hp] at hw
  obtain ⟨i, -, hi⟩ := List.mem_filterMap.mp hw
  exact gw_at i hi h1
def chkZ (q : Int32 × Sto) : Option (Int32 × Sto) := if q.1 = 0 ∨ q.1 = 1 then some q else none
theorem chkZ_ok {o : Option (Int32 × Sto)} {z : Int32 × Sto} (h : o.bind chkZ = some z) : (z.1 = 0 ∨ z.1 = 1) ∧ o = some z := by
  obtain ⟨a, ha, hb⟩ := bnd h
  obtain ⟨hc, hd⟩ := gd hb
  cases hd
  exact ⟨hc, ha⟩
def chkC (q : Int32 × Sto) : Option (Int32 × Sto) := if narrow .char (.int q.1) = .int q.1 then some q else none
theorem chkC_ok {o : Option (Int32 × Sto)} {z : Int32 × Sto} (h : o.bind chkC = some z) : narrow .char (.int z.1) = .int z.1 ∧ o = some z := by
  obtain ⟨a, ha, hb⟩ := bnd h
  obtain ⟨hc, hd⟩ := gd hb
  cases hd
  exact ⟨hc, ha⟩
def chkB (q : Int32 × Sto) : Option (Int32 × Sto) := if narrow .byte (.int q.1) = .int q.1 then some q else none
theorem chkB_ok {o : Option (Int32 × Sto)} {z : Int32 × Sto} (h : o.bind chkB = some z) : narrow .byte (.int z.1) = .int z.1 ∧ o = some z := by
  obtain ⟨a, ha, hb⟩ := bnd h
  obtain ⟨hc, hd⟩ := gd hb
  cases hd
  exact ⟨hc, ha⟩
/-! facts of the tables, by their places -/
theorem inX0g : ∀ w ∈ u_ws RX0 TX0 9, w ∈ gw := ws_gw _ [115, 117, 119, 121, 123, 125, 127, 129, 131] (by decide +kernel) (by decide +kernel)
theorem inX1g : ∀ w ∈ u_ws RX1 TX1 3, w ∈ gw := ws_gw _ [159, 161, 163] (by decide +kernel) (by decide +kernel)
theorem inX2g : ∀ w ∈ u_ws RX2 TX2 2, w ∈ gw := ws_gw _ [144, 146] (by decide +kernel) (by decide +kernel)
theorem inX3g : ∀ w ∈ u_ws RX3 TX3 11, w ∈ gw := ws_gw _ [177, 179, 181, 183, 185, 187, 189, 191, 193, 195, 197] (by decide +kernel) (by decide +kernel)
theorem inX4g : ∀ w ∈ u_ws RX4 TX4 26, w ∈ gw := ws_gw _ [706, 708, 710, 712, 714, 716, 718, 720, 722, 724, 726, 728, 730, 732, 734, 736, 738, 740, 742, 744, 746, 748, 750, 752, 754, 756] (by decide +kernel) (by decide +kernel)
theorem ly0 : lay[0]? = some (.inr (3, [some 1, some 3, some 5, some 7, some 9, some 11, some 14, some 15, some 16, none, none])) := rfl
theorem ly2 : lay[2]? = some (.inl 24) := rfl
theorem ly4 : lay[4]? = some (.inl 24) := rfl
theorem ly6 : lay[6]? = some (.inl 24) := rfl
theorem ly8 : lay[8]? = some (.inl 24) := rfl
theorem ly9 : lay[9]? = some (.inr (2, [some 10, none])) := rfl
theorem ly10 : lay[10]? = some (.inl 80) := rfl
theorem ly11 : lay[11]? = some (.inr (1, [some 12, some 13, none])) := rfl
theorem ly12 : lay[12]? = some (.inl 8) := rfl
theorem ly13 : lay[13]? = some (.inl 8) := rfl
theorem ly14 : lay[14]? = some (.inl 20) := rfl
theorem ly15 : lay[15]? = some (.inl 9) := rfl
theorem ly16 : lay[16]? = some (.inl 7) := rfl
theorem ly17 : lay[17]? = some (.inr (4, [some 18, some 19, some 20, none, none, none, none, some 21, some 22, some 23, some 24, none, none, none, some 25, none, none, none, none, none, some 26, some 27, some 28, none, some 29, none])) := rfl
theorem ly18 : lay[18]? = some (.inl 7) := rfl
theorem ly19 : lay[19]? = some (.inl 24) := rfl
theorem ly20 : lay[20]? = some (.inl 4) := rfl
theorem ly21 : lay[21]? = some (.inl 80) := rfl
theorem ly22 : lay[22]? = some (.inl 40) := rfl
theorem ly23 : lay[23]? = some (.inl 40) := rfl
theorem ly24 : lay[24]? = some (.inl 120) := rfl
theorem ly25 : lay[25]? = some (.inl 105) := rfl
theorem ly26 : lay[26]? = some (.inl 8) := rfl
theorem ly27 : lay[27]? = some (.inl 8) := rfl
theorem ly28 : lay[28]? = some (.inl 10) := rfl
theorem ly29 : lay[29]? = some (.inl 20) := rfl
theorem iniX3 : Cond.initialized RX3 ∈ gw := gw_at 64 (by decide +kernel) rfl
theorem cdX3_isNoCell : Cond.code yX3_isNoCell cX3_isNoCell 1 (some .boolean) ∈ gw := gw_at 378 (by decide +kernel) rfl
theorem ldX3_isNoCell : LkD yX3_isNoCell cX3_isNoCell 1 (some .boolean) 1 := ⟨iniX3, cdX3_isNoCell, by decide +kernel, by decide +kernel, by decide +kernel⟩
theorem mlX3_85 : Cond.methodLink RX3 85 yX3_isNoCell ∈ gw := gw_at 433 (by decide +kernel) rfl
theorem smX3_isNoCell : Cond.static yX3_isNoCell ∈ gw := gw_at 377 (by decide +kernel) rfl
theorem lkX3_85 : LkS RX3 85 yX3_isNoCell cX3_isNoCell 1 (some .boolean) 1 := ⟨mlX3_85, smX3_isNoCell, ldX3_isNoCell⟩
theorem flX3_10 : Cond.fieldLink RX3 10 "HigherMoreLeft" "now" "LHigherMoreLeft$Back;" ∈ gw := gw_at 166 (by decide +kernel) rfl
theorem flX0_9 : Cond.fieldLink RX0 9 "HigherMoreLeft$Back" "sores" "[I" ∈ gw := gw_at 91 (by decide +kernel) rfl
theorem iniX0 : Cond.initialized RX0 ∈ gw := gw_at 65 (by decide +kernel) rfl
theorem cdX0_soreAt : Cond.code yX0_soreAt cX0_soreAt 2 (some .int) ∈ gw := gw_at 404 (by decide +kernel) rfl
theorem ldX0_soreAt : LkD yX0_soreAt cX0_soreAt 2 (some .int) 1 := ⟨iniX0, cdX0_soreAt, by decide +kernel, by decide +kernel, by decide +kernel⟩
theorem mlX3_89 : Cond.methodLinkNest RX3 89 yX0_soreAt "HigherMoreLeft" ∈ lw_tbl := List.mem_of_getElem? (i := 434) (by decide +kernel)
theorem imX0_soreAt : Cond.instanceMethod yX0_soreAt ∈ gw := gw_at 403 (by decide +kernel) rfl
theorem seX0_soreAt : Cond.selects (yX0_soreAt).cls yX0_soreAt yX0_soreAt ∈ gw := gw_at 11 (by decide +kernel) rfl
theorem lkX3_89 : LkVN RX3 89 yX0_soreAt "HigherMoreLeft" cX0_soreAt 2 (some .int) 1 := ⟨mlX3_89, imX0_soreAt, seX0_soreAt, ldX0_soreAt⟩
theorem flX3_46 : Cond.fieldLink RX3 46 "HigherMoreLeft" "refused" "[I" ∈ gw := gw_at 174 (by decide +kernel) rfl
theorem cdX3_refuse : Cond.code yX3_refuse cX3_refuse 3 (some .int) ∈ gw := gw_at 207 (by decide +kernel) rfl
theorem ldX3_refuse : LkD yX3_refuse cX3_refuse 3 (some .int) 1 := ⟨iniX3, cdX3_refuse, by decide +kernel, by decide +kernel, by decide +kernel⟩
theorem mlX3_57 : Cond.methodLink RX3 57 yX3_refuse ∈ gw := gw_at 204 (by decide +kernel) rfl
theorem imX3_refuse : Cond.instanceMethod yX3_refuse ∈ gw := gw_at 206 (by decide +kernel) rfl
theorem seX3_refuse : Cond.selects (yX3_refuse).cls yX3_refuse yX3_refuse ∈ gw := gw_at 0 (by decide +kernel) rfl
theorem lkX3_57 : LkV RX3 57 yX3_refuse cX3_refuse 3 (some .int) 1 := ⟨mlX3_57, imX3_refuse, seX3_refuse, ldX3_refuse⟩
theorem mlX0_46 : Cond.methodLinkNest RX0 46 yX3_isNoCell "HigherMoreLeft" ∈ lw_tbl := List.mem_of_getElem? (i := 395) (by decide +kernel)
theorem lkX0_46 : LkSN RX0 46 yX3_isNoCell "HigherMoreLeft" cX3_isNoCell 1 (some .boolean) 1 := ⟨mlX0_46, smX3_isNoCell, ldX3_isNoCell⟩
theorem mlX0_54 : Cond.methodLink RX0 54 Lib.Math.min.name ∈ gw := gw_at 396 (by decide +kernel) rfl
theorem smMmin : Cond.static Lib.Math.min.name ∈ gw := gw_at 318 (by decide +kernel) rfl
theorem iniMath : Cond.initialized "java/lang/Math" ∈ gw := gw_at 74 (by decide +kernel) rfl
theorem cdMmin : Cond.code Lib.Math.min.name Lib.Math.min.code 2 (some .int) ∈ gw := gw_at 319 (by decide +kernel) rfl
theorem flX0_22 : Cond.fieldLink RX0 22 "HigherMoreLeft$Back" "hand" "I" ∈ gw := gw_at 98 (by decide +kernel) rfl
theorem flX0_19 : Cond.fieldLink RX0 19 "HigherMoreLeft$Back" "place" "I" ∈ gw := gw_at 95 (by decide +kernel) rfl
theorem flX0_25 : Cond.fieldLink RX0 25 "HigherMoreLeft$Back" "time" "I" ∈ gw := gw_at 100 (by decide +kernel) rfl
theorem flX0_15 : Cond.fieldLink RX0 15 "HigherMoreLeft$Back" "kind" "I" ∈ gw := gw_at 92 (by decide +kernel) rfl
theorem cdX0_awayFromHand : Cond.code yX0_awayFromHand cX0_awayFromHand 2 (some .int) ∈ gw := gw_at 415 (by decide +kernel) rfl
theorem ldX0_awayFromHand : LkD yX0_awayFromHand cX0_awayFromHand 2 (some .int) 0 := ⟨iniX0, cdX0_awayFromHand, by decide +kernel, by decide +kernel, by decide +kernel⟩
theorem mlX0_75 : Cond.methodLink RX0 75 yX0_awayFromHand ∈ gw := gw_at 412 (by decide +kernel) rfl
theorem imX0_awayFromHand : Cond.instanceMethod yX0_awayFromHand ∈ gw := gw_at 414 (by decide +kernel) rfl
theorem seX0_awayFromHand : Cond.selects (yX0_awayFromHand).cls yX0_awayFromHand yX0_awayFromHand ∈ gw := gw_at 13 (by decide +kernel) rfl
theorem lkX0_75 : LkV RX0 75 yX0_awayFromHand cX0_awayFromHand 2 (some .int) 0 := ⟨mlX0_75, imX0_awayFromHand, seX0_awayFromHand, ldX0_awayFromHand⟩
theorem mlX0_66 : Cond.methodLink RX0 66 yX0_soreAt ∈ gw := gw_at 401 (by decide +kernel) rfl
theorem lkX0_66 : LkV RX0 66 yX0_soreAt cX0_soreAt 2 (some .int) 1 := ⟨mlX0_66, imX0_soreAt, seX0_soreAt, ldX0_soreAt⟩
theorem flX0_37 : Cond.fieldLink RX0 37 "HigherMoreLeft$Back" "seam" "I" ∈ gw := gw_at 112 (by decide +kernel) rfl
theorem iniJ6 : Cond.initialized RJ6 ∈ gw := gw_at 76 (by decide +kernel) rfl
theorem cdJ6_compare_7cf53 : Cond.code yJ6_compare_7cf53 cJ6_compare_7cf53 2 (some .int) ∈ gw := gw_at 411 (by decide +kernel) rfl
theorem ldJ6_compare_7cf53 : LkD yJ6_compare_7cf53 cJ6_compare_7cf53 2 (some .int) 2 := ⟨iniJ6, cdJ6_compare_7cf53, by decide +kernel, by decide +kernel, by decide +kernel⟩
theorem mlX0_70 : Cond.methodLink RX0 70 yJ6_compare_7cf53 ∈ gw := gw_at 409 (by decide +kernel) rfl
theorem smJ6_compare_7cf53 : Cond.static yJ6_compare_7cf53 ∈ gw := gw_at 410 (by decide +kernel) rfl
theorem lkX0_70 : LkS RX0 70 yJ6_compare_7cf53 cJ6_compare_7cf53 2 (some .int) 2 := ⟨mlX0_70, smJ6_compare_7cf53, ldJ6_compare_7cf53⟩
theorem cdX0_whenBeside : Cond.code yX0_whenBeside cX0_whenBeside 4 (some .int) ∈ gw := gw_at 408 (by decide +kernel) rfl
theorem ldX0_whenBeside : LkD yX0_whenBeside cX0_whenBeside 4 (some .int) 0 := ⟨iniX0, cdX0_whenBeside, by decide +kernel, by decide +kernel, by decide +kernel⟩
theorem mlX0_63 : Cond.methodLink RX0 63 yX0_whenBeside ∈ gw := gw_at 405 (by decide +kernel) rfl
theorem imX0_whenBeside : Cond.instanceMethod yX0_whenBeside ∈ gw := gw_at 407 (by decide +kernel) rfl
theorem seX0_whenBeside : Cond.selects (yX0_whenBeside).cls yX0_whenBeside yX0_whenBeside ∈ gw := gw_at 12 (by decide +kernel) rfl
theorem lkX0_63 : LkV RX0 63 yX0_whenBeside cX0_whenBeside 4 (some .int) 0 := ⟨mlX0_63, imX0_whenBeside, seX0_whenBeside, ldX0_whenBeside⟩
theorem cdX0_whenStruck : Cond.code yX0_whenStruck cX0_whenStruck 1 (some .int) ∈ gw := gw_at 400 (by decide +kernel) rfl
theorem ldX0_whenStruck : LkD yX0_whenStruck cX0_whenStruck 1 (some .int) 0 := ⟨iniX0, cdX0_whenStruck, by decide +kernel, by decide +kernel, by decide +kernel⟩
theorem mlX0_59 : Cond.methodLink RX0 59 yX0_whenStruck ∈ gw := gw_at 397 (by decide +kernel) rfl
theorem imX0_whenStruck : Cond.instanceMethod yX0_whenStruck ∈ gw := gw_at 399 (by decide +kernel) rfl
theorem seX0_whenStruck : Cond.selects (yX0_whenStruck).cls yX0_whenStruck yX0_whenStruck ∈ gw := gw_at 10 (by decide +kernel) rfl
theorem lkX0_59 : LkV RX0 59 yX0_whenStruck cX0_whenStruck 1 (some .int) 0 := ⟨mlX0_59, imX0_whenStruck, seX0_whenStruck, ldX0_whenStruck⟩
theorem gfX3_10 {X : Scr} {cc : ByteArray} {nL : Nat} {R : Room} {ri : Instr} {pc : Nat} {L : List (Nat × Value)} {st : List Value} {σ σ' : Sto} {r : Option Value} {kk : Nat} {fl : List (Option Nat)} {f : Nat} (hl : lay[kk]? = some (.inr (3, fl))) (hd : decode cc pc = .ok (.getfield 10, 3)) (k1 : Rt X RX3 cc nL R ri (pc + 3) L (.ref f :: st) σ r σ') (hj : fl[0]? = some (some f) := by rfl) : Rt X RX3 cc nL R ri pc L (.ref kk :: st) σ r σ' := Rt.getR hl rfl inX3g (by decide) hj flX3_10 hd k1
theorem gfX0_9 {X : Scr} {cc : ByteArray} {nL : Nat} {R : Room} {ri : Instr} {pc : Nat} {L : List (Nat × Value)} {st : List Value} {σ σ' : Sto} {r : Option Value} {kk : Nat} {fl : List (Option Nat)} {f : Nat} (hl : lay[kk]? = some (.inr (0, fl))) (hd : decode cc pc = .ok (.getfield 9, 3)) (k1 : Rt X RX0 cc nL R ri (pc + 3) L (.ref f :: st) σ r σ') (hj : fl[0]? = some (some f) := by rfl) : Rt X RX0 cc nL R ri pc L (.ref kk :: st) σ r σ' := Rt.getR hl rfl inX0g (by decide) hj flX0_9 hd k1
theorem gfX3_46 {X : Scr} {cc : ByteArray} {nL : Nat} {R : Room} {ri : Instr} {pc : Nat} {L : List (Nat × Value)} {st : List Value} {σ σ' : Sto} {r : Option Value} {kk : Nat} {fl : List (Option Nat)} {f : Nat} (hl : lay[kk]? = some (.inr (3, fl))) (hd : decode cc pc = .ok (.getfield 46, 3)) (k1 : Rt X RX3 cc nL R ri (pc + 3) L (.ref f :: st) σ r σ') (hj : fl[8]? = some (some f) := by rfl) : Rt X RX3 cc nL R ri pc L (.ref kk :: st) σ r σ' := Rt.getR hl rfl inX3g (by decide) hj flX3_46 hd k1
theorem pfX0_22 {X : Scr} {cc : ByteArray} {nL : Nat} {R : Room} {ri : Instr} {pc : Nat} {L : List (Nat × Value)} {st : List Value} {σ σ' : Sto} {r : Option Value} {kk : Nat} {fl : List (Option Nat)} {x : Int32} (hl : lay[kk]? = some (.inr (0, fl))) (hd : decode cc pc = .ok (.putfield 22, 3)) (k1 : Rt X RX0 cc nL R ri (pc + 3) L st (upS σ kk 3 x) r σ') (hj : fl[3]? = some none := by rfl) : Rt X RX0 cc nL R ri pc L (.int x :: .ref kk :: st) σ r σ' := Rt.putI (ty := .int) hl rfl inX0g tyX0_ok nmX0 (by decide) hj rfl rfl rfl rfl flX0_22 hd k1
theorem gfX0_19 {X : Scr} {cc : ByteArray} {nL : Nat} {R : Room} {ri : Instr} {pc : Nat} {L : List (Nat × Value)} {st : List Value} {σ σ' : Sto} {r : Option Value} {kk : Nat} {fl : List (Option Nat)} (hl : lay[kk]? = some (.inr (0, fl))) (hd : decode cc pc = .ok (.getfield 19, 3)) (k1 : Rt X RX0 cc nL R ri (pc + 3) L (.int (σ kk 2) :: st) σ r σ') (hj : fl[2]? = some none := by rfl) : Rt X RX0 cc nL R ri pc L (.ref kk :: st) σ r σ' := Rt.getI hl rfl inX0g (by decide) hj flX0_19 hd k1
theorem gfX0_25 {X : Scr} {cc : ByteArray} {nL : Nat} {R : Room} {ri : Instr} {pc : Nat} {L : List (Nat × Value)} {st : List Value} {σ σ' : Sto} {r : Option Value} {kk : Nat} {fl : List (Option Nat)} (hl : lay[kk]? = some (.inr (0, fl))) (hd : decode cc pc = .ok (.getfield 25, 3)) (k1 : Rt X RX0 cc nL R ri (pc + 3) L (.int (σ kk 4) :: st) σ r σ') (hj : fl[4]? = some none := by rfl) : Rt X RX0 cc nL R ri pc L (.ref kk :: st) σ r σ' := Rt.getI hl rfl inX0g (by decide) hj flX0_25 hd k1
theorem pfX0_25 {X : Scr} {cc : ByteArray} {nL : Nat} {R : Room} {ri : Instr} {pc : Nat} {L : List (Nat × Value)} {st : List Value} {σ σ' : Sto} {r : Option Value} {kk : Nat} {fl : List (Option Nat)} {x : Int32} (hl : lay[kk]? = some (.inr (0, fl))) (hd : decode cc pc = .ok (.putfield 25, 3)) (k1 : Rt X RX0 cc nL R ri (pc + 3) L st (upS σ kk 4 x) r σ') (hj : fl[4]? = some none := by rfl) : Rt X RX0 cc nL R ri pc L (.int x :: .ref kk :: st) σ r σ' := Rt.putI (ty := .int) hl rfl inX0g tyX0_ok nmX0 (by decide) hj rfl rfl rfl rfl flX0_25 hd k1
theorem gfX0_15 {X : Scr} {cc : ByteArray} {nL : Nat} {R : Room} {ri : Instr} {pc : Nat} {L : List (Nat × Value)} {st : List Value} {σ σ' : Sto} {r : Option Value} {kk : Nat} {fl : List (Option Nat)} (hl : lay[kk]? = some (.inr (0, fl))) (hd : decode cc pc = .ok (.getfield 15, 3)) (k1 : Rt X RX0 cc nL R ri (pc + 3) L (.int (σ kk 1) :: st) σ r σ') (hj : fl[1]? = some none := by rfl) : Rt X RX0 cc nL R ri pc L (.ref kk :: st) σ r σ' := Rt.getI hl rfl inX0g (by decide) hj flX0_15 hd k1
theorem gfX0_22 {X : Scr} {cc : ByteArray} {nL : Nat} {R : Room} {ri : Instr} {pc : Nat} {L : List (Nat × Value)} {st : List Value} {σ σ' : Sto} {r : Option Value} {kk : Nat} {fl : List (Option Nat)} (hl : lay[kk]? = some (.inr (0, fl))) (hd : decode cc pc = .ok (.getfield 22, 3)) (k1 : Rt X RX0 cc nL R ri (pc + 3) L (.int (σ kk 3) :: st) σ r σ') (hj : fl[3]? = some none := by rfl) : Rt X RX0 cc nL R ri pc L (.ref kk :: st) σ r σ' := Rt.getI hl rfl inX0g (by decide) hj flX0_22 hd k1
theorem gfX0_37 {X : Scr} {cc : ByteArray} {nL : Nat} {R : Room} {ri : Instr} {pc : Nat} {L : List (Nat × Value)} {st : List Value} {σ σ' : Sto} {r : Option Value} {kk : Nat} {fl : List (Option Nat)} (hl : lay[kk]? = some (.inr (0, fl))) (hd : decode cc pc = .ok (.getfield 37, 3)) (k1 : Rt X RX0 cc nL R ri (pc + 3) L (.int (σ kk 8) :: st) σ r σ') (hj : fl[8]? = some none := by rfl) : Rt X RX0 cc nL R ri pc L (.ref kk :: st) σ r σ' := Rt.getI hl rfl inX0g (by decide) hj flX0_37 hd k1
theorem pfX0_19 {X : Scr} {cc : ByteArray} {nL : Nat} {R : Room} {ri : Instr} {pc : Nat} {L : List (Nat × Value)} {st : List Value} {σ σ' : Sto} {r : Option Value} {kk : Nat} {fl : List (Option Nat)} {x : Int32} (hl : lay[kk]? = some (.inr (0, fl))) (hd : decode cc pc = .ok (.putfield 19, 3)) (k1 : Rt X RX0 cc nL R ri (pc + 3) L st (upS σ kk 2 x) r σ') (hj : fl[2]? = some none := by rfl) : Rt X RX0 cc nL R ri pc L (.int x :: .ref kk :: st) σ r σ' := Rt.putI (ty := .int) hl rfl inX0g tyX0_ok nmX0 (by decide) hj rfl rfl rfl rfl flX0_19 hd k1
