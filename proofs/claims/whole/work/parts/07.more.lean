/-! more rows: names for remainders and the like, switches, picking locals, calls with an answer or none -/
def irm (x y : Int32) : Int32 := x - x / y * y
def lrm (x y : Int64) : Int64 := x - x / y * y
def ishl5 (x y : Int32) : Int32 := x <<< (y &&& 31)
def ishr5 (x y : Int32) : Int32 := x >>> (y &&& 31)
def mxI (x y : Int32) : Int32 := if x < y then y else x
def mnI (x y : Int32) : Int32 := if y < x then y else x
def abI (x : Int32) : Int32 := if 0 ≤ x then x else 0 - x
def i2cI (x : Int32) : Int32 := (x.toUInt32 % 65536).toInt32
def i2bI (x : Int32) : Int32 := x.toInt8.toInt32
/-- a Back at cell k, its row of SORE behind it -/
def bk (k : Nat) : Prop := lay[k]? = some (.inr (0, [some (k + 1), none, none, none, none, none, none, none, none])) ∧ lay[k + 1]? = some (.inl 24)
theorem bk1 : bk 1 := ⟨rfl, rfl⟩
theorem bk3 : bk 3 := ⟨rfl, rfl⟩
theorem bk5 : bk 5 := ⟨rfl, rfl⟩
theorem bk7 : bk 7 := ⟨rfl, rfl⟩
theorem gd {c : Prop} [Decidable c] {α : Type} {x : Option α} {y : α} (h : (if c then x else none) = some y) : c ∧ x = some y := by
  by_cases hc : c
  · exact ⟨hc, (if_pos hc).symm.trans h⟩
  · rw [if_neg hc] at h
    cases h
theorem bnd {α β : Type} {o : Option α} {k : α → Option β} {b : β} (h : o.bind k = some b) : ∃ a, o = some a ∧ k a = some b := Option.bind_eq_some_iff.mp h
theorem nti {x : Int32} (v : Int32) {k : Int} (hv : v.toInt = k) (h : ¬ x = v) : x.toInt ≠ k := fun e => h (Int32.toInt_inj.mp (e.trans hv.symm))
section RtMore
variable {X : Scr} {own : String} {cc : ByteArray} {nL : Nat} {R : Room} {ri : Instr} {pc : Nat} {L L' : List (Nat × Value)} {st : List Value} {σ σ1 : Sto} {r : Option Value} {σ' : Sto}
theorem Rt.pick (is : List Nat) (hl' : is.filterMap (fun i => L[i]?) = L') (k : Rt X own cc nL R ri pc L' st σ r σ') : Rt X own cc nL R ri pc L st σ r σ' := by
  intro g p l e s m args below meth c cells slots Q hf hc hs hK hT K H locs ls hP hD hS hl
  refine k g p l e s m args below meth c cells slots Q hf hc hs hK hT K H locs ls hP hD hS ⟨hl.1, hl.2.1, fun q hq => hl.2.2 q ?_⟩
  rw [← hl'] at hq
  obtain ⟨z, hz, rfl⟩ := List.mem_map.mp hq
  obtain ⟨i, -, hi⟩ := List.mem_filterMap.mp hz
  exact List.mem_map.mpr ⟨z, List.mem_of_getElem? hi, rfl⟩
theorem Rt.rem {x y : Int32} (hd : decode cc pc = .ok (.irem, 1)) (hy : ¬ y = 0) (k : Rt X own cc nL R ri (pc + 1) L (.int (irm x y) :: st) σ r σ') : Rt X own cc nL R ri pc L (.int y :: .int x :: st) σ r σ' := Rt.irem hd hy k
theorem Rt.lrem' {x y : Int64} (hd : decode cc pc = .ok (.lrem, 1)) (hy : ¬ y = 0) (k : Rt X own cc nL R ri (pc + 1) L (.long (lrm x y) :: st) σ r σ') : Rt X own cc nL R ri pc L (.long y :: .long x :: st) σ r σ' := Rt.lrem hd hy k
theorem Rt.shl {x y : Int32} (hd : decode cc pc = .ok (.ishl, 1)) (k : Rt X own cc nL R ri (pc + 1) L (.int (ishl5 x y) :: st) σ r σ') : Rt X own cc nL R ri pc L (.int y :: .int x :: st) σ r σ' := Rt.ishl hd k
theorem Rt.shr {x y : Int32} (hd : decode cc pc = .ok (.ishr, 1)) (k : Rt X own cc nL R ri (pc + 1) L (.int (ishr5 x y) :: st) σ r σ') : Rt X own cc nL R ri pc L (.int y :: .int x :: st) σ r σ' := Rt.ishr hd k
theorem Rt.toC {x : Int32} (hd : decode cc pc = .ok (.i2c, 1)) (k : Rt X own cc nL R ri (pc + 1) L (.int (i2cI x) :: st) σ r σ') : Rt X own cc nL R ri pc L (.int x :: st) σ r σ' := Rt.i2c hd k
theorem Rt.toB {x : Int32} (hd : decode cc pc = .ok (.i2b, 1)) (k : Rt X own cc nL R ri (pc + 1) L (.int (i2bI x) :: st) σ r σ') : Rt X own cc nL R ri pc L (.int x :: st) σ r σ' := by
  intro g p l e s m args below meth c cells slots Q hf hc hs hK hT K H locs ls hP hD hS hl
  exact lv_i2b hf.1 hf.2.1 hd rfl (k g p l e s m args below meth c cells slots Q hf hc hs hK hT K H locs ls hP hD hS hl)
theorem Rt.ixor {x y : Int32} (hd : decode cc pc = .ok (.ixor, 1)) (k : Rt X own cc nL R ri (pc + 1) L (.int (x ^^^ y) :: st) σ r σ') : Rt X own cc nL R ri pc L (.int y :: .int x :: st) σ r σ' := by
  intro g p l e s m args below meth c cells slots Q hf hc hs hK hT K H locs ls hP hD hS hl
  exact lv_ixor hf.1 hf.2.1 hd (k g p l e s m args below meth c cells slots Q hf hc hs hK hT K H locs ls hP hD hS hl)
theorem Rt.pop {v : Value} (hd : decode cc pc = .ok (.pop, 1)) (hv : v.category = 1) (k : Rt X own cc nL R ri (pc + 1) L st σ r σ') : Rt X own cc nL R ri pc L (v :: st) σ r σ' := by
  intro g p l e s m args below meth c cells slots Q hf hc hs hK hT K H locs ls hP hD hS hl
  exact lv_pop hf.1 hf.2.1 hd ((cv_cat hT.cat v).trans hv) (k g p l e s m args below meth c cells slots Q hf hc hs hK hT K H locs ls hP hD hS hl)
theorem Rt.tsIn {dflt lo hi : Int} {offs : Array Int} {len : Nat} {x : Int32} {off : Int} (tgt : Nat) (hd : decode cc pc = .ok (.tableswitch dflt lo hi offs, len)) (h1 : ¬ x.toInt < lo) (h2 : ¬ hi < x.toInt) (ho : offs[(x.toInt - lo).toNat]? = some off) (ht : (pc : Int) + off = (tgt : Int)) (k : Rt X own cc nL R ri tgt L st σ r σ') : Rt X own cc nL R ri pc L (.int x :: st) σ r σ' := by
  intro g p l e s m args below meth c cells slots Q hf hc hs hK hT K H locs ls hP hD hS hl
  exact lv_tableIn hf.1 hf.2.1 hd h1 h2 ho ht (k g p l e s m args below meth c cells slots Q hf hc hs hK hT K H locs ls hP hD hS hl)
theorem Rt.tsOut {dflt lo hi : Int} {offs : Array Int} {len : Nat} {x : Int32} (tgt : Nat) (hd : decode cc pc = .ok (.tableswitch dflt lo hi offs, len)) (h : x.toInt < lo ∨ hi < x.toInt) (ht : (pc : Int) + dflt = (tgt : Int)) (k : Rt X own cc nL R ri tgt L st σ r σ') : Rt X own cc nL R ri pc L (.int x :: st) σ r σ' := by
  intro g p l e s m args below meth c cells slots Q hf hc hs hK hT K H locs ls hP hD hS hl
  exact lv_tableOut hf.1 hf.2.1 hd h ht (k g p l e s m args below meth c cells slots Q hf hc hs hK hT K H locs ls hP hD hS hl)
theorem Rt.lsw {dflt : Int} {ps : Array (Int × Int)} {len : Nat} {x : Int32} {off : Int} (tgt : Nat) (hd : decode cc pc = .ok (.lookupswitch dflt ps, len)) (hp : (ps.toList.zip (ps.toList.drop 1)).all (fun (a, next) => a.1 < next.1) = true) (ho : Op.lookupswitch.offset ps.toList dflt x.toInt = off) (ht : (pc : Int) + off = (tgt : Int)) (k : Rt X own cc nL R ri tgt L st σ r σ') : Rt X own cc nL R ri pc L (.int x :: st) σ r σ' := by
  intro g p l e s m args below meth c cells slots Q hf hc hs hK hT K H locs ls hP hD hS hl
  exact lv_lookup hf.1 hf.2.1 hd hp ho ht (k g p l e s m args below meth c cells slots Q hf hc hs hK hT K H locs ls hP hD hS hl)
theorem lsw_out {l : List (Int × Int)} {dflt k : Int} (h : ∀ q ∈ l, q.1 ≠ k) : Op.lookupswitch.offset l dflt k = dflt := by
  induction l with
  | nil => rfl
  | cons a l ih =>
    obtain ⟨a1, a2⟩ := a
    rw [Op.lookupswitch.offset_cons, if_neg (h (a1, a2) List.mem_cons_self)]
    exact ih fun q hq => h q (List.mem_cons_of_mem _ hq)
theorem Rt.lswOut {dflt : Int} {ps : Array (Int × Int)} {len : Nat} {x : Int32} (tgt : Nat) (hd : decode cc pc = .ok (.lookupswitch dflt ps, len)) (hp : (ps.toList.zip (ps.toList.drop 1)).all (fun (a, next) => a.1 < next.1) = true) (ho : ∀ q ∈ ps.toList, q.1 ≠ x.toInt) (ht : (pc : Int) + dflt = (tgt : Int)) (k : Rt X own cc nL R ri tgt L st σ r σ') : Rt X own cc nL R ri pc L (.int x :: st) σ r σ' := Rt.lsw tgt hd hp (lsw_out ho) ht k
variable {y : MethodName} {bytes : ByteArray} {maxL n idx fr lo kk : Nat} {ret : Option FieldType} {As : List Value} {v1 : Value} {S : List Value}
theorem Rt.cV {ci : Nat} {fl : List (Option Nat)} {q : vw_C} (hM : AM y bytes maxL ret fr lo (.ref kk :: As) σ (some v1) σ1) (hL : LkV own idx y bytes maxL ret n) (hlay : lay[kk]? = some (.inr (ci, fl))) (hcl : vwCl[ci]? = some q) (hq : q.1 = y.cls) (hn : As.length = n) (hR : fr + 1 ≤ R.frames ∧ 8 + (maxL + 11) + lo ≤ R.locals) (hW : (st.map fun v => v.category).sum ≤ 8) (hS : S = As.reverse ++ .ref kk :: st) (hd : decode cc pc = .ok (.invokevirtual idx, 3)) (k1 : Rt X own cc nL R ri (pc + 3) L (v1 :: st) σ1 r σ') : Rt X own cc nL R ri pc L S σ r σ' := by
  subst hS
  exact Rt.callV hM hL hlay hcl hq hn hR hW hd k1
theorem Rt.cV0 {ci : Nat} {fl : List (Option Nat)} {q : vw_C} (hM : AM y bytes maxL ret fr lo (.ref kk :: As) σ none σ1) (hL : LkV own idx y bytes maxL ret n) (hlay : lay[kk]? = some (.inr (ci, fl))) (hcl : vwCl[ci]? = some q) (hq : q.1 = y.cls) (hn : As.length = n) (hR : fr + 1 ≤ R.frames ∧ 8 + (maxL + 11) + lo ≤ R.locals) (hW : (st.map fun v => v.category).sum ≤ 8) (hS : S = As.reverse ++ .ref kk :: st) (hd : decode cc pc = .ok (.invokevirtual idx, 3)) (k1 : Rt X own cc nL R ri (pc + 3) L st σ1 r σ') : Rt X own cc nL R ri pc L S σ r σ' := by
  subst hS
  exact Rt.callV hM hL hlay hcl hq hn hR hW hd k1
theorem Rt.cVT {i : Nat} (hM : AM y bytes maxL ret fr lo (.ref (40 + i) :: As) σ (some v1) σ1) (hL : LkV own idx y bytes maxL ret n) (hi : i < 6) (hq : "java/lang/String" = y.cls) (hn : As.length = n) (hR : fr + 1 ≤ R.frames ∧ 8 + (maxL + 11) + lo ≤ R.locals) (hW : (st.map fun v => v.category).sum ≤ 8) (hS : S = As.reverse ++ .ref (40 + i) :: st) (hd : decode cc pc = .ok (.invokevirtual idx, 3)) (k1 : Rt X own cc nL R ri (pc + 3) L (v1 :: st) σ1 r σ') : Rt X own cc nL R ri pc L S σ r σ' := by
  subst hS
  exact Rt.callVT hM hL hi hq hn hR hW hd k1
theorem Rt.cS (hM : AM y bytes maxL ret fr lo As σ (some v1) σ1) (hL : LkS own idx y bytes maxL ret n) (hn : As.length = n) (hR : fr + 1 ≤ R.frames ∧ 8 + (maxL + 11) + lo ≤ R.locals) (hW : (st.map fun v => v.category).sum ≤ 8) (hS : S = As.reverse ++ st) (hd : decode cc pc = .ok (.invokestatic idx, 3)) (k1 : Rt X own cc nL R ri (pc + 3) L (v1 :: st) σ1 r σ') : Rt X own cc nL R ri pc L S σ r σ' := by
  subst hS
  exact Rt.callS hM hL hn hR hW hd k1
theorem Rt.cS0 (hM : AM y bytes maxL ret fr lo As σ none σ1) (hL : LkS own idx y bytes maxL ret n) (hn : As.length = n) (hR : fr + 1 ≤ R.frames ∧ 8 + (maxL + 11) + lo ≤ R.locals) (hW : (st.map fun v => v.category).sum ≤ 8) (hS : S = As.reverse ++ st) (hd : decode cc pc = .ok (.invokestatic idx, 3)) (k1 : Rt X own cc nL R ri (pc + 3) L st σ1 r σ') : Rt X own cc nL R ri pc L S σ r σ' := by
  subst hS
  exact Rt.callS hM hL hn hR hW hd k1
theorem Rt.cVN {ci : Nat} {fl : List (Option Nat)} {q : vw_C} {host : String} (hM : AM y bytes maxL ret fr lo (.ref kk :: As) σ (some v1) σ1) (hL : LkVN own idx y host bytes maxL ret n) (hlay : lay[kk]? = some (.inr (ci, fl))) (hcl : vwCl[ci]? = some q) (hq : q.1 = y.cls) (hn : As.length = n) (hR : fr + 1 ≤ R.frames ∧ 8 + (maxL + 11) + lo ≤ R.locals) (hW : (st.map fun v => v.category).sum ≤ 8) (hS : S = As.reverse ++ .ref kk :: st) (hd : decode cc pc = .ok (.invokevirtual idx, 3)) (k1 : Rt X own cc nL R ri (pc + 3) L (v1 :: st) σ1 r σ') : Rt X own cc nL R ri pc L S σ r σ' := by
  subst hS
  exact Rt.callVN hM hL hlay hcl hq hn hR hW hd k1
theorem Rt.cVN0 {ci : Nat} {fl : List (Option Nat)} {q : vw_C} {host : String} (hM : AM y bytes maxL ret fr lo (.ref kk :: As) σ none σ1) (hL : LkVN own idx y host bytes maxL ret n) (hlay : lay[kk]? = some (.inr (ci, fl))) (hcl : vwCl[ci]? = some q) (hq : q.1 = y.cls) (hn : As.length = n) (hR : fr + 1 ≤ R.frames ∧ 8 + (maxL + 11) + lo ≤ R.locals) (hW : (st.map fun v => v.category).sum ≤ 8) (hS : S = As.reverse ++ .ref kk :: st) (hd : decode cc pc = .ok (.invokevirtual idx, 3)) (k1 : Rt X own cc nL R ri (pc + 3) L st σ1 r σ') : Rt X own cc nL R ri pc L S σ r σ' := by
  subst hS
  exact Rt.callVN hM hL hlay hcl hq hn hR hW hd k1
theorem Rt.cSN {host : String} (hM : AM y bytes maxL ret fr lo As σ (some v1) σ1) (hL : LkSN own idx y host bytes maxL ret n) (hn : As.length = n) (hR : fr + 1 ≤ R.frames ∧ 8 + (maxL + 11) + lo ≤ R.locals) (hW : (st.map fun v => v.category).sum ≤ 8) (hS : S = As.reverse ++ st) (hd : decode cc pc = .ok (.invokestatic idx, 3)) (k1 : Rt X own cc nL R ri (pc + 3) L (v1 :: st) σ1 r σ') : Rt X own cc nL R ri pc L S σ r σ' := by
  subst hS
  exact Rt.callSN hM hL hn hR hW hd k1
end RtMore
