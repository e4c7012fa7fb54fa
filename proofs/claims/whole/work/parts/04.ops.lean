/-! Rt: from this place of a method's code the machine comes to a return, with this answer and this store; a row an instruction -/
def Rt (X : Scr) (own : String) (cc : ByteArray) (nL : Nat) (R : Room) (ri : Instr) (pc : Nat) (L : List (Nat × Value)) (st : List Value) (σ : Sto) (r : Option Value) (σ' : Sto) : Prop :=
  ∀ (g : Gl) (p : Program) (l : Launch) (e : Env) (s : State) (m : MethodId) (args : Array Value) (below : List Frame) (meth : Method) (c : Code) (cells slots : Nat) (Q : State → Prop),
    CallFix p m c cc nL s args gw own → cells ≤ R.cells → slots ≤ R.slots → va_K g.1 vwCl [(g.2.2.1, .int)] s → Stt X g s s.heap →
    (∀ (pcr : Nat) (H : Heap) (locs : List Loc) (ls : Array Slot), decode cc pcr = .ok (ri, 1) → va_P g.1 vwCl (ces g σ') H → va_D g.2.2.2.1 (ces g σ') → va_S g.2.2.2.1 s.heap H locs → W p l e R s m args below meth c H locs cells slots Q (F0 m pcr ls (r.toList.map (cv g)))) →
    ∀ (H : Heap) (locs : List Loc) (ls : Array Slot), va_P g.1 vwCl (ces g σ) H → va_D g.2.2.2.1 (ces g σ) → va_S g.2.2.2.1 s.heap H locs → lv_has ls nL (L.map (cvl g)) →
      W p l e R s m args below meth c H locs cells slots Q (F0 m pc ls (st.map (cv g)))
section RtOps
variable {X : Scr} {own : String} {cc : ByteArray} {nL : Nat} {R : Room} {ri : Instr} {pc : Nat} {L L' : List (Nat × Value)} {st : List Value} {σ : Sto} {r : Option Value} {σ' : Sto}
theorem lm_at {g : Gl} {j i : Nat} {v : Value} (h : L[j]? = some (i, v)) : (L.map (cvl g))[j]? = some (i, cv g v) := by rw [List.getElem?_map, h]; rfl
theorem lm_store1 {g : Gl} (hc : g.2.2.2.2.category = 1) {i : Nat} {v : Value} (hl : (i, v) :: L.filter (fun q => !(q.1 == i) && !(q.1 + 1 == i && q.2.category == 2)) = L') :
    (i, cv g v) :: (L.map (cvl g)).filter (fun q => !(q.1 == i) && !(q.1 + 1 == i && q.2.category == 2)) = L'.map (cvl g) := by
  rw [← hl, List.filter_map, List.map_cons]
  congr 2
  refine List.filter_congr fun q _ => ?_
  simp only [Function.comp, cvl, cv_cat hc]
theorem lm_store2 {g : Gl} (hc : g.2.2.2.2.category = 1) {i : Nat} {v : Value} (hl : (i, v) :: L.filter (fun q => !(q.1 == i) && (!(q.1 == i + 1) && !(q.1 + 1 == i && q.2.category == 2))) = L') :
    (i, cv g v) :: (L.map (cvl g)).filter (fun q => !(q.1 == i) && (!(q.1 == i + 1) && !(q.1 + 1 == i && q.2.category == 2))) = L'.map (cvl g) := by
  rw [← hl, List.filter_map, List.map_cons]
  congr 2
  refine List.filter_congr fun q _ => ?_
  simp only [Function.comp, cvl, cv_cat hc]
theorem Rt.ret {v : Option Value} (hd : decode cc pc = .ok (ri, 1)) (hs : st = v.toList) (hr : v = r) (hσ : σ = σ') : Rt X own cc nL R ri pc L st σ r σ' := by
  subst hs; subst hr; subst hσ
  intro g p l e s m args below meth c cells slots Q hf hc hs hK hT K H locs ls hP hD hS hl
  exact K pc H locs ls hd hP hD hS
theorem Rt.iconst {n : Int} (v : Int32) (hd : decode cc pc = .ok (.iconst n, 1)) (hv : Int32.ofInt n = v) (k : Rt X own cc nL R ri (pc + 1) L (.int v :: st) σ r σ') : Rt X own cc nL R ri pc L st σ r σ' := by
  intro g p l e s m args below meth c cells slots Q hf hc hs hK hT K H locs ls hP hD hS hl
  exact lv_iconst (v := v) hf.1 hf.2.1 hd hv (k g p l e s m args below meth c cells slots Q hf hc hs hK hT K H locs ls hP hD hS hl)
theorem Rt.bipush {n : Int} (v : Int32) (hd : decode cc pc = .ok (.bipush n, 2)) (hv : (Int8.ofInt n).toInt32 = v) (k : Rt X own cc nL R ri (pc + 2) L (.int v :: st) σ r σ') : Rt X own cc nL R ri pc L st σ r σ' := by
  intro g p l e s m args below meth c cells slots Q hf hc hs hK hT K H locs ls hP hD hS hl
  exact lv_bipush (v := v) hf.1 hf.2.1 hd hv (k g p l e s m args below meth c cells slots Q hf hc hs hK hT K H locs ls hP hD hS hl)
theorem Rt.sipush {n : Int} (v : Int32) (hd : decode cc pc = .ok (.sipush n, 3)) (hv : (Int16.ofInt n).toInt32 = v) (k : Rt X own cc nL R ri (pc + 3) L (.int v :: st) σ r σ') : Rt X own cc nL R ri pc L st σ r σ' := by
  intro g p l e s m args below meth c cells slots Q hf hc hs hK hT K H locs ls hP hD hS hl
  exact lv_sipush (v := v) hf.1 hf.2.1 hd hv (k g p l e s m args below meth c cells slots Q hf hc hs hK hT K H locs ls hP hD hS hl)
theorem Rt.lconst {n : Fin 2} (v : Int64) (hd : decode cc pc = .ok (.lconst n, 1)) (hv : Int64.ofNat (n : Nat) = v) (k : Rt X own cc nL R ri (pc + 1) L (.long v :: st) σ r σ') : Rt X own cc nL R ri pc L st σ r σ' := by
  intro g p l e s m args below meth c cells slots Q hf hc hs hK hT K H locs ls hP hD hS hl
  exact lv_lconst (v := v) hf.1 hf.2.1 hd hv (k g p l e s m args below meth c cells slots Q hf hc hs hK hT K H locs ls hP hD hS hl)
theorem Rt.ldc {index : Nat} (v : Int32) (hm : Cond.constant own index v ∈ gw) (hd : decode cc pc = .ok (.ldc index, 2)) (k : Rt X own cc nL R ri (pc + 2) L (.int v :: st) σ r σ') : Rt X own cc nL R ri pc L st σ r σ' := by
  intro g p l e s m args below meth c cells slots Q hf hc hs hK hT K H locs ls hP hD hS hl
  exact lv_ldc (v := v) hf.1 hf.2.1 hf.2.2.2.1 (hf.2.2.2.2 _ hm) hd (k g p l e s m args below meth c cells slots Q hf hc hs hK hT K H locs ls hP hD hS hl)
theorem Rt.ldc2 {index : Nat} (v : Int64) (hm : Cond.constantLong own index v ∈ gw) (hd : decode cc pc = .ok (.ldc2_w index, 3)) (k : Rt X own cc nL R ri (pc + 3) L (.long v :: st) σ r σ') : Rt X own cc nL R ri pc L st σ r σ' := by
  intro g p l e s m args below meth c cells slots Q hf hc hs hK hT K H locs ls hP hD hS hl
  exact lv_ldc2 (v := v) hf.1 hf.2.1 hf.2.2.2.1 (hf.2.2.2.2 _ hm) hd (k g p l e s m args below meth c cells slots Q hf hc hs hK hT K H locs ls hP hD hS hl)
theorem Rt.iload_n {q : Fin 4} {x : Int32} (j : Nat) (hd : decode cc pc = .ok (.iload_n q, 1)) (hj : L[j]? = some ((q : Nat), .int x)) (k : Rt X own cc nL R ri (pc + 1) L (.int x :: st) σ r σ') : Rt X own cc nL R ri pc L (st) σ r σ' := by
  intro g p l e s m args below meth c cells slots Q hf hc hs hK hT K H locs ls hP hD hS hl
  exact lv_iload_n hf.1 hf.2.1 hd rfl (lv_at hl j (lm_at hj)) (k g p l e s m args below meth c cells slots Q hf hc hs hK hT K H locs ls hP hD hS hl)
theorem Rt.iload {i : Nat} {x : Int32} (j : Nat) (hd : decode cc pc = .ok (.iload i, 2)) (hj : L[j]? = some (i, .int x)) (k : Rt X own cc nL R ri (pc + 2) L (.int x :: st) σ r σ') : Rt X own cc nL R ri pc L (st) σ r σ' := by
  intro g p l e s m args below meth c cells slots Q hf hc hs hK hT K H locs ls hP hD hS hl
  exact lv_iload hf.1 hf.2.1 hd (lv_at hl j (lm_at hj)) (k g p l e s m args below meth c cells slots Q hf hc hs hK hT K H locs ls hP hD hS hl)
theorem Rt.lload_n {q : Fin 4} {x : Int64} (j : Nat) (hd : decode cc pc = .ok (.lload_n q, 1)) (hj : L[j]? = some ((q : Nat), .long x)) (k : Rt X own cc nL R ri (pc + 1) L (.long x :: st) σ r σ') : Rt X own cc nL R ri pc L (st) σ r σ' := by
  intro g p l e s m args below meth c cells slots Q hf hc hs hK hT K H locs ls hP hD hS hl
  exact lv_lload_n hf.1 hf.2.1 hd rfl (lv_at hl j (lm_at hj)) (k g p l e s m args below meth c cells slots Q hf hc hs hK hT K H locs ls hP hD hS hl)
theorem Rt.lload {i : Nat} {x : Int64} (j : Nat) (hd : decode cc pc = .ok (.lload i, 2)) (hj : L[j]? = some (i, .long x)) (k : Rt X own cc nL R ri (pc + 2) L (.long x :: st) σ r σ') : Rt X own cc nL R ri pc L (st) σ r σ' := by
  intro g p l e s m args below meth c cells slots Q hf hc hs hK hT K H locs ls hP hD hS hl
  exact lv_lload hf.1 hf.2.1 hd (lv_at hl j (lm_at hj)) (k g p l e s m args below meth c cells slots Q hf hc hs hK hT K H locs ls hP hD hS hl)
theorem Rt.aload_n {q : Fin 4} {x : Nat} (j : Nat) (hd : decode cc pc = .ok (.aload_n q, 1)) (hj : L[j]? = some ((q : Nat), .ref x)) (k : Rt X own cc nL R ri (pc + 1) L (.ref x :: st) σ r σ') : Rt X own cc nL R ri pc L (st) σ r σ' := by
  intro g p l e s m args below meth c cells slots Q hf hc hs hK hT K H locs ls hP hD hS hl
  exact lv_aload_n hf.1 hf.2.1 hd rfl (lv_at hl j (lm_at hj)) (k g p l e s m args below meth c cells slots Q hf hc hs hK hT K H locs ls hP hD hS hl)
theorem Rt.aload {i : Nat} {x : Nat} (j : Nat) (hd : decode cc pc = .ok (.aload i, 2)) (hj : L[j]? = some (i, .ref x)) (k : Rt X own cc nL R ri (pc + 2) L (.ref x :: st) σ r σ') : Rt X own cc nL R ri pc L (st) σ r σ' := by
  intro g p l e s m args below meth c cells slots Q hf hc hs hK hT K H locs ls hP hD hS hl
  exact lv_aload hf.1 hf.2.1 hd (lv_at hl j (lm_at hj)) (k g p l e s m args below meth c cells slots Q hf hc hs hK hT K H locs ls hP hD hS hl)
theorem Rt.istore_n (L' : List (Nat × Value)) {q : Fin 4} {x : Int32} (hd : decode cc pc = .ok (.istore_n q, 1)) (hn : (q : Nat) < nL) (hl' : ((q : Nat), Value.int x) :: L.filter (fun z => !(z.1 == (q : Nat)) && !(z.1 + 1 == (q : Nat) && z.2.category == 2)) = L') (k : Rt X own cc nL R ri (pc + 1) L' (st) σ r σ') : Rt X own cc nL R ri pc L (.int x :: st) σ r σ' := by
  intro g p l e s m args below meth c cells slots Q hf hc hs hK hT K H locs ls hP hD hS hl
  exact lv_istore_n hf.1 hf.2.1 hd rfl hl hn (lm_store1 hT.cat hl') (fun ls' hl' => k g p l e s m args below meth c cells slots Q hf hc hs hK hT K H locs ls' hP hD hS hl')
theorem Rt.istore (L' : List (Nat × Value)) {i : Nat} {x : Int32} (hd : decode cc pc = .ok (.istore i, 2)) (hn : i < nL) (hl' : (i, Value.int x) :: L.filter (fun q => !(q.1 == i) && !(q.1 + 1 == i && q.2.category == 2)) = L') (k : Rt X own cc nL R ri (pc + 2) L' (st) σ r σ') : Rt X own cc nL R ri pc L (.int x :: st) σ r σ' := by
  intro g p l e s m args below meth c cells slots Q hf hc hs hK hT K H locs ls hP hD hS hl
  exact lv_istore hf.1 hf.2.1 hd hl hn (lm_store1 hT.cat hl') (fun ls' hl' => k g p l e s m args below meth c cells slots Q hf hc hs hK hT K H locs ls' hP hD hS hl')
theorem Rt.astore_n (L' : List (Nat × Value)) {q : Fin 4} {x : Nat} (hd : decode cc pc = .ok (.astore_n q, 1)) (hn : (q : Nat) < nL) (hl' : ((q : Nat), Value.ref x) :: L.filter (fun z => !(z.1 == (q : Nat)) && !(z.1 + 1 == (q : Nat) && z.2.category == 2)) = L') (k : Rt X own cc nL R ri (pc + 1) L' (st) σ r σ') : Rt X own cc nL R ri pc L (.ref x :: st) σ r σ' := by
  intro g p l e s m args below meth c cells slots Q hf hc hs hK hT K H locs ls hP hD hS hl
  exact lv_astore_n hf.1 hf.2.1 hd rfl hl hn (lm_store1 hT.cat hl') (fun ls' hl' => k g p l e s m args below meth c cells slots Q hf hc hs hK hT K H locs ls' hP hD hS hl')
theorem Rt.astore (L' : List (Nat × Value)) {i : Nat} {x : Nat} (hd : decode cc pc = .ok (.astore i, 2)) (hn : i < nL) (hl' : (i, Value.ref x) :: L.filter (fun q => !(q.1 == i) && !(q.1 + 1 == i && q.2.category == 2)) = L') (k : Rt X own cc nL R ri (pc + 2) L' (st) σ r σ') : Rt X own cc nL R ri pc L (.ref x :: st) σ r σ' := by
  intro g p l e s m args below meth c cells slots Q hf hc hs hK hT K H locs ls hP hD hS hl
  exact lv_astore hf.1 hf.2.1 hd hl hn (lm_store1 hT.cat hl') (fun ls' hl' => k g p l e s m args below meth c cells slots Q hf hc hs hK hT K H locs ls' hP hD hS hl')
theorem Rt.lstore_n (L' : List (Nat × Value)) {q : Fin 4} {x : Int64} (hd : decode cc pc = .ok (.lstore_n q, 1)) (hn : (q : Nat) + 1 < nL) (hl' : ((q : Nat), Value.long x) :: L.filter (fun z => !(z.1 == (q : Nat)) && (!(z.1 == (q : Nat) + 1) && !(z.1 + 1 == (q : Nat) && z.2.category == 2))) = L') (k : Rt X own cc nL R ri (pc + 1) L' (st) σ r σ') : Rt X own cc nL R ri pc L (.long x :: st) σ r σ' := by
  intro g p l e s m args below meth c cells slots Q hf hc hs hK hT K H locs ls hP hD hS hl
  exact lv_lstore_n hf.1 hf.2.1 hd rfl hl hn (lm_store2 hT.cat hl') (fun ls' hl' => k g p l e s m args below meth c cells slots Q hf hc hs hK hT K H locs ls' hP hD hS hl')
theorem Rt.lstore (L' : List (Nat × Value)) {i : Nat} {x : Int64} (hd : decode cc pc = .ok (.lstore i, 2)) (hn : i + 1 < nL) (hl' : (i, Value.long x) :: L.filter (fun q => !(q.1 == i) && (!(q.1 == i + 1) && !(q.1 + 1 == i && q.2.category == 2))) = L') (k : Rt X own cc nL R ri (pc + 2) L' (st) σ r σ') : Rt X own cc nL R ri pc L (.long x :: st) σ r σ' := by
  intro g p l e s m args below meth c cells slots Q hf hc hs hK hT K H locs ls hP hD hS hl
  exact lv_lstore hf.1 hf.2.1 hd hl hn (lm_store2 hT.cat hl') (fun ls' hl' => k g p l e s m args below meth c cells slots Q hf hc hs hK hT K H locs ls' hP hD hS hl')
theorem Rt.iinc (L' : List (Nat × Value)) {i : Nat} {n : Int} {x : Int32} (v : Int32) (j : Nat) (hd : decode cc pc = .ok (.iinc i n, 3)) (hj : L[j]? = some (i, .int x)) (hv : x + Int32.ofInt n = v) (hn : i < nL) (hl' : (i, Value.int v) :: L.filter (fun q => !(q.1 == i) && !(q.1 + 1 == i && q.2.category == 2)) = L') (k : Rt X own cc nL R ri (pc + 3) L' (st) σ r σ') : Rt X own cc nL R ri pc L (st) σ r σ' := by
  intro g p l e s m args below meth c cells slots Q hf hc hs hK hT K H locs ls hP hD hS hl
  exact lv_iinc hf.1 hf.2.1 hd hl (lm_at hj) hv hn (lm_store1 hT.cat hl') (fun ls' hl' => k g p l e s m args below meth c cells slots Q hf hc hs hK hT K H locs ls' hP hD hS hl')
theorem Rt.iadd {x y : Int32} (hd : decode cc pc = .ok (.iadd, 1)) (k : Rt X own cc nL R ri (pc + 1) L (.int (x + y) :: st) σ r σ') : Rt X own cc nL R ri pc L (.int y :: .int x :: st) σ r σ' := by
  intro g p l e s m args below meth c cells slots Q hf hc hs hK hT K H locs ls hP hD hS hl
  exact lv_iadd hf.1 hf.2.1 hd (k g p l e s m args below meth c cells slots Q hf hc hs hK hT K H locs ls hP hD hS hl)
theorem Rt.isub {x y : Int32} (hd : decode cc pc = .ok (.isub, 1)) (k : Rt X own cc nL R ri (pc + 1) L (.int (x - y) :: st) σ r σ') : Rt X own cc nL R ri pc L (.int y :: .int x :: st) σ r σ' := by
  intro g p l e s m args below meth c cells slots Q hf hc hs hK hT K H locs ls hP hD hS hl
  exact lv_isub hf.1 hf.2.1 hd (k g p l e s m args below meth c cells slots Q hf hc hs hK hT K H locs ls hP hD hS hl)
theorem Rt.imul {x y : Int32} (hd : decode cc pc = .ok (.imul, 1)) (k : Rt X own cc nL R ri (pc + 1) L (.int (x * y) :: st) σ r σ') : Rt X own cc nL R ri pc L (.int y :: .int x :: st) σ r σ' := by
  intro g p l e s m args below meth c cells slots Q hf hc hs hK hT K H locs ls hP hD hS hl
  exact lv_imul hf.1 hf.2.1 hd (k g p l e s m args below meth c cells slots Q hf hc hs hK hT K H locs ls hP hD hS hl)
theorem Rt.iand {x y : Int32} (hd : decode cc pc = .ok (.iand, 1)) (k : Rt X own cc nL R ri (pc + 1) L (.int (x &&& y) :: st) σ r σ') : Rt X own cc nL R ri pc L (.int y :: .int x :: st) σ r σ' := by
  intro g p l e s m args below meth c cells slots Q hf hc hs hK hT K H locs ls hP hD hS hl
  exact lv_iand hf.1 hf.2.1 hd (k g p l e s m args below meth c cells slots Q hf hc hs hK hT K H locs ls hP hD hS hl)
theorem Rt.ior {x y : Int32} (hd : decode cc pc = .ok (.ior, 1)) (k : Rt X own cc nL R ri (pc + 1) L (.int (x ||| y) :: st) σ r σ') : Rt X own cc nL R ri pc L (.int y :: .int x :: st) σ r σ' := by
  intro g p l e s m args below meth c cells slots Q hf hc hs hK hT K H locs ls hP hD hS hl
  exact lv_ior hf.1 hf.2.1 hd (k g p l e s m args below meth c cells slots Q hf hc hs hK hT K H locs ls hP hD hS hl)
theorem Rt.ishl {x y : Int32} (hd : decode cc pc = .ok (.ishl, 1)) (k : Rt X own cc nL R ri (pc + 1) L (.int (x <<< (y &&& 31)) :: st) σ r σ') : Rt X own cc nL R ri pc L (.int y :: .int x :: st) σ r σ' := by
  intro g p l e s m args below meth c cells slots Q hf hc hs hK hT K H locs ls hP hD hS hl
  exact lv_ishl hf.1 hf.2.1 hd (k g p l e s m args below meth c cells slots Q hf hc hs hK hT K H locs ls hP hD hS hl)
theorem Rt.ishr {x y : Int32} (hd : decode cc pc = .ok (.ishr, 1)) (k : Rt X own cc nL R ri (pc + 1) L (.int (x >>> (y &&& 31)) :: st) σ r σ') : Rt X own cc nL R ri pc L (.int y :: .int x :: st) σ r σ' := by
  intro g p l e s m args below meth c cells slots Q hf hc hs hK hT K H locs ls hP hD hS hl
  exact lv_ishr hf.1 hf.2.1 hd (k g p l e s m args below meth c cells slots Q hf hc hs hK hT K H locs ls hP hD hS hl)
theorem Rt.idiv {x y : Int32} (hd : decode cc pc = .ok (.idiv, 1)) (hy : ¬ y = 0) (k : Rt X own cc nL R ri (pc + 1) L (.int (x / y) :: st) σ r σ') : Rt X own cc nL R ri pc L (.int y :: .int x :: st) σ r σ' := by
  intro g p l e s m args below meth c cells slots Q hf hc hs hK hT K H locs ls hP hD hS hl
  exact lv_idiv hf.1 hf.2.1 hd hy (k g p l e s m args below meth c cells slots Q hf hc hs hK hT K H locs ls hP hD hS hl)
theorem Rt.irem {x y : Int32} (hd : decode cc pc = .ok (.irem, 1)) (hy : ¬ y = 0) (k : Rt X own cc nL R ri (pc + 1) L (.int (x - x / y * y) :: st) σ r σ') : Rt X own cc nL R ri pc L (.int y :: .int x :: st) σ r σ' := by
  intro g p l e s m args below meth c cells slots Q hf hc hs hK hT K H locs ls hP hD hS hl
  exact lv_irem hf.1 hf.2.1 hd hy (k g p l e s m args below meth c cells slots Q hf hc hs hK hT K H locs ls hP hD hS hl)
theorem Rt.ladd {x y : Int64} (hd : decode cc pc = .ok (.ladd, 1)) (k : Rt X own cc nL R ri (pc + 1) L (.long (x + y) :: st) σ r σ') : Rt X own cc nL R ri pc L (.long y :: .long x :: st) σ r σ' := by
  intro g p l e s m args below meth c cells slots Q hf hc hs hK hT K H locs ls hP hD hS hl
  exact lv_ladd hf.1 hf.2.1 hd (k g p l e s m args below meth c cells slots Q hf hc hs hK hT K H locs ls hP hD hS hl)
theorem Rt.lsub {x y : Int64} (hd : decode cc pc = .ok (.lsub, 1)) (k : Rt X own cc nL R ri (pc + 1) L (.long (x - y) :: st) σ r σ') : Rt X own cc nL R ri pc L (.long y :: .long x :: st) σ r σ' := by
  intro g p l e s m args below meth c cells slots Q hf hc hs hK hT K H locs ls hP hD hS hl
  exact lv_lsub hf.1 hf.2.1 hd (k g p l e s m args below meth c cells slots Q hf hc hs hK hT K H locs ls hP hD hS hl)
theorem Rt.lmul {x y : Int64} (hd : decode cc pc = .ok (.lmul, 1)) (k : Rt X own cc nL R ri (pc + 1) L (.long (x * y) :: st) σ r σ') : Rt X own cc nL R ri pc L (.long y :: .long x :: st) σ r σ' := by
  intro g p l e s m args below meth c cells slots Q hf hc hs hK hT K H locs ls hP hD hS hl
  exact lv_lmul hf.1 hf.2.1 hd (k g p l e s m args below meth c cells slots Q hf hc hs hK hT K H locs ls hP hD hS hl)
theorem Rt.ldiv {x y : Int64} (hd : decode cc pc = .ok (.ldiv, 1)) (hy : ¬ y = 0) (k : Rt X own cc nL R ri (pc + 1) L (.long (x / y) :: st) σ r σ') : Rt X own cc nL R ri pc L (.long y :: .long x :: st) σ r σ' := by
  intro g p l e s m args below meth c cells slots Q hf hc hs hK hT K H locs ls hP hD hS hl
  exact lv_ldiv hf.1 hf.2.1 hd hy (k g p l e s m args below meth c cells slots Q hf hc hs hK hT K H locs ls hP hD hS hl)
theorem Rt.lrem {x y : Int64} (hd : decode cc pc = .ok (.lrem, 1)) (hy : ¬ y = 0) (k : Rt X own cc nL R ri (pc + 1) L (.long (x - x / y * y) :: st) σ r σ') : Rt X own cc nL R ri pc L (.long y :: .long x :: st) σ r σ' := by
  intro g p l e s m args below meth c cells slots Q hf hc hs hK hT K H locs ls hP hD hS hl
  exact lv_lrem hf.1 hf.2.1 hd hy (k g p l e s m args below meth c cells slots Q hf hc hs hK hT K H locs ls hP hD hS hl)
theorem Rt.ineg {x : Int32} (hd : decode cc pc = .ok (.ineg, 1)) (k : Rt X own cc nL R ri (pc + 1) L (.int (-x) :: st) σ r σ') : Rt X own cc nL R ri pc L (.int x :: st) σ r σ' := by
  intro g p l e s m args below meth c cells slots Q hf hc hs hK hT K H locs ls hP hD hS hl
  exact lv_ineg hf.1 hf.2.1 hd (k g p l e s m args below meth c cells slots Q hf hc hs hK hT K H locs ls hP hD hS hl)
theorem Rt.i2l {x : Int32} (hd : decode cc pc = .ok (.i2l, 1)) (k : Rt X own cc nL R ri (pc + 1) L (.long x.toInt64 :: st) σ r σ') : Rt X own cc nL R ri pc L (.int x :: st) σ r σ' := by
  intro g p l e s m args below meth c cells slots Q hf hc hs hK hT K H locs ls hP hD hS hl
  exact lv_i2l hf.1 hf.2.1 hd rfl (k g p l e s m args below meth c cells slots Q hf hc hs hK hT K H locs ls hP hD hS hl)
theorem Rt.i2c {x : Int32} (hd : decode cc pc = .ok (.i2c, 1)) (k : Rt X own cc nL R ri (pc + 1) L (.int (x.toUInt32 % 65536).toInt32 :: st) σ r σ') : Rt X own cc nL R ri pc L (.int x :: st) σ r σ' := by
  intro g p l e s m args below meth c cells slots Q hf hc hs hK hT K H locs ls hP hD hS hl
  exact lv_i2c hf.1 hf.2.1 hd rfl (k g p l e s m args below meth c cells slots Q hf hc hs hK hT K H locs ls hP hD hS hl)
theorem Rt.lcmp {x y : Int64} (hd : decode cc pc = .ok (.lcmp, 1)) (k : Rt X own cc nL R ri (pc + 1) L (.int (lg_cmp x y) :: st) σ r σ') : Rt X own cc nL R ri pc L (.long y :: .long x :: st) σ r σ' := by
  intro g p l e s m args below meth c cells slots Q hf hc hs hK hT K H locs ls hP hD hS hl
  exact W.lcmp hf.1 hf.2.1 hd (k g p l e s m args below meth c cells slots Q hf hc hs hK hT K H locs ls hP hD hS hl)
theorem Rt.dup {v : Value} (hd : decode cc pc = .ok (.dup, 1)) (hv : v.category = 1) (k : Rt X own cc nL R ri (pc + 1) L (v :: v :: st) σ r σ') : Rt X own cc nL R ri pc L (v :: st) σ r σ' := by
  intro g p l e s m args below meth c cells slots Q hf hc hs hK hT K H locs ls hP hD hS hl
  exact lv_dup hf.1 hf.2.1 hd ((cv_cat hT.cat v).trans hv) (k g p l e s m args below meth c cells slots Q hf hc hs hK hT K H locs ls hP hD hS hl)
theorem Rt.dup2 {v w : Value} (hd : decode cc pc = .ok (.dup2, 1)) (hv : v.category = 1) (hw : w.category = 1) (k : Rt X own cc nL R ri (pc + 1) L (v :: w :: v :: w :: st) σ r σ') : Rt X own cc nL R ri pc L (v :: w :: st) σ r σ' := by
  intro g p l e s m args below meth c cells slots Q hf hc hs hK hT K H locs ls hP hD hS hl
  exact lv_dup2_11 hf.1 hf.2.1 hd ((cv_cat hT.cat v).trans hv) ((cv_cat hT.cat w).trans hw) (k g p l e s m args below meth c cells slots Q hf hc hs hK hT K H locs ls hP hD hS hl)
theorem Rt.ifnull {x : Nat} {off : Int} (hd : decode cc pc = .ok (.ifnull off, 3)) (k : Rt X own cc nL R ri (pc + 3) L (st) σ r σ') : Rt X own cc nL R ri pc L (.ref x :: st) σ r σ' := by
  intro g p l e s m args below meth c cells slots Q hf hc hs hK hT K H locs ls hP hD hS hl
  exact lv_ifnull hf.1 hf.2.1 hd (k g p l e s m args below meth c cells slots Q hf hc hs hK hT K H locs ls hP hD hS hl)
theorem Rt.if_eq {x : Int32} {off : Int} (tgt : Nat) (hd : decode cc pc = .ok (.ifCond .eq off, 3)) (ht : (pc : Int) + off = (tgt : Int)) (kt : x = 0 → Rt X own cc nL R ri tgt L st σ r σ') (kf : ¬ (x = 0) → Rt X own cc nL R ri (pc + 3) L st σ r σ') : Rt X own cc nL R ri pc L (.int x :: st) σ r σ' := by
  intro g p l e s m args below meth c cells slots Q hf hc hs hK hT K H locs ls hP hD hS hl
  exact lv_if_eq hf.1 hf.2.1 hd ht (fun h => kt h g p l e s m args below meth c cells slots Q hf hc hs hK hT K H locs ls hP hD hS hl) (fun h => kf h g p l e s m args below meth c cells slots Q hf hc hs hK hT K H locs ls hP hD hS hl)
theorem Rt.icmp_eq {x y : Int32} {off : Int} (tgt : Nat) (hd : decode cc pc = .ok (.if_icmp .eq off, 3)) (ht : (pc : Int) + off = (tgt : Int)) (kt : x = y → Rt X own cc nL R ri tgt L st σ r σ') (kf : ¬ (x = y) → Rt X own cc nL R ri (pc + 3) L st σ r σ') : Rt X own cc nL R ri pc L (.int y :: .int x :: st) σ r σ' := by
  intro g p l e s m args below meth c cells slots Q hf hc hs hK hT K H locs ls hP hD hS hl
  exact lv_icmp_eq hf.1 hf.2.1 hd ht (fun h => kt h g p l e s m args below meth c cells slots Q hf hc hs hK hT K H locs ls hP hD hS hl) (fun h => kf h g p l e s m args below meth c cells slots Q hf hc hs hK hT K H locs ls hP hD hS hl)
theorem Rt.if_ne {x : Int32} {off : Int} (tgt : Nat) (hd : decode cc pc = .ok (.ifCond .ne off, 3)) (ht : (pc : Int) + off = (tgt : Int)) (kt : ¬ x = 0 → Rt X own cc nL R ri tgt L st σ r σ') (kf : x = 0 → Rt X own cc nL R ri (pc + 3) L st σ r σ') : Rt X own cc nL R ri pc L (.int x :: st) σ r σ' := by
  intro g p l e s m args below meth c cells slots Q hf hc hs hK hT K H locs ls hP hD hS hl
  exact lv_if_ne hf.1 hf.2.1 hd ht (fun h => kt h g p l e s m args below meth c cells slots Q hf hc hs hK hT K H locs ls hP hD hS hl) (fun h => kf h g p l e s m args below meth c cells slots Q hf hc hs hK hT K H locs ls hP hD hS hl)
theorem Rt.icmp_ne {x y : Int32} {off : Int} (tgt : Nat) (hd : decode cc pc = .ok (.if_icmp .ne off, 3)) (ht : (pc : Int) + off = (tgt : Int)) (kt : ¬ x = y → Rt X own cc nL R ri tgt L st σ r σ') (kf : x = y → Rt X own cc nL R ri (pc + 3) L st σ r σ') : Rt X own cc nL R ri pc L (.int y :: .int x :: st) σ r σ' := by
  intro g p l e s m args below meth c cells slots Q hf hc hs hK hT K H locs ls hP hD hS hl
  exact lv_icmp_ne hf.1 hf.2.1 hd ht (fun h => kt h g p l e s m args below meth c cells slots Q hf hc hs hK hT K H locs ls hP hD hS hl) (fun h => kf h g p l e s m args below meth c cells slots Q hf hc hs hK hT K H locs ls hP hD hS hl)
theorem Rt.if_lt {x : Int32} {off : Int} (tgt : Nat) (hd : decode cc pc = .ok (.ifCond .lt off, 3)) (ht : (pc : Int) + off = (tgt : Int)) (kt : x < 0 → Rt X own cc nL R ri tgt L st σ r σ') (kf : ¬ (x < 0) → Rt X own cc nL R ri (pc + 3) L st σ r σ') : Rt X own cc nL R ri pc L (.int x :: st) σ r σ' := by
  intro g p l e s m args below meth c cells slots Q hf hc hs hK hT K H locs ls hP hD hS hl
  exact lv_if_lt hf.1 hf.2.1 hd ht (fun h => kt h g p l e s m args below meth c cells slots Q hf hc hs hK hT K H locs ls hP hD hS hl) (fun h => kf h g p l e s m args below meth c cells slots Q hf hc hs hK hT K H locs ls hP hD hS hl)
theorem Rt.icmp_lt {x y : Int32} {off : Int} (tgt : Nat) (hd : decode cc pc = .ok (.if_icmp .lt off, 3)) (ht : (pc : Int) + off = (tgt : Int)) (kt : x < y → Rt X own cc nL R ri tgt L st σ r σ') (kf : ¬ (x < y) → Rt X own cc nL R ri (pc + 3) L st σ r σ') : Rt X own cc nL R ri pc L (.int y :: .int x :: st) σ r σ' := by
  intro g p l e s m args below meth c cells slots Q hf hc hs hK hT K H locs ls hP hD hS hl
  exact lv_icmp_lt hf.1 hf.2.1 hd ht (fun h => kt h g p l e s m args below meth c cells slots Q hf hc hs hK hT K H locs ls hP hD hS hl) (fun h => kf h g p l e s m args below meth c cells slots Q hf hc hs hK hT K H locs ls hP hD hS hl)
theorem Rt.if_ge {x : Int32} {off : Int} (tgt : Nat) (hd : decode cc pc = .ok (.ifCond .ge off, 3)) (ht : (pc : Int) + off = (tgt : Int)) (kt : 0 ≤ x → Rt X own cc nL R ri tgt L st σ r σ') (kf : ¬ (0 ≤ x) → Rt X own cc nL R ri (pc + 3) L st σ r σ') : Rt X own cc nL R ri pc L (.int x :: st) σ r σ' := by
  intro g p l e s m args below meth c cells slots Q hf hc hs hK hT K H locs ls hP hD hS hl
  exact lv_if_ge hf.1 hf.2.1 hd ht (fun h => kt h g p l e s m args below meth c cells slots Q hf hc hs hK hT K H locs ls hP hD hS hl) (fun h => kf h g p l e s m args below meth c cells slots Q hf hc hs hK hT K H locs ls hP hD hS hl)
theorem Rt.icmp_ge {x y : Int32} {off : Int} (tgt : Nat) (hd : decode cc pc = .ok (.if_icmp .ge off, 3)) (ht : (pc : Int) + off = (tgt : Int)) (kt : y ≤ x → Rt X own cc nL R ri tgt L st σ r σ') (kf : ¬ (y ≤ x) → Rt X own cc nL R ri (pc + 3) L st σ r σ') : Rt X own cc nL R ri pc L (.int y :: .int x :: st) σ r σ' := by
  intro g p l e s m args below meth c cells slots Q hf hc hs hK hT K H locs ls hP hD hS hl
  exact lv_icmp_ge hf.1 hf.2.1 hd ht (fun h => kt h g p l e s m args below meth c cells slots Q hf hc hs hK hT K H locs ls hP hD hS hl) (fun h => kf h g p l e s m args below meth c cells slots Q hf hc hs hK hT K H locs ls hP hD hS hl)
theorem Rt.if_gt {x : Int32} {off : Int} (tgt : Nat) (hd : decode cc pc = .ok (.ifCond .gt off, 3)) (ht : (pc : Int) + off = (tgt : Int)) (kt : 0 < x → Rt X own cc nL R ri tgt L st σ r σ') (kf : ¬ (0 < x) → Rt X own cc nL R ri (pc + 3) L st σ r σ') : Rt X own cc nL R ri pc L (.int x :: st) σ r σ' := by
  intro g p l e s m args below meth c cells slots Q hf hc hs hK hT K H locs ls hP hD hS hl
  exact lv_if_gt hf.1 hf.2.1 hd ht (fun h => kt h g p l e s m args below meth c cells slots Q hf hc hs hK hT K H locs ls hP hD hS hl) (fun h => kf h g p l e s m args below meth c cells slots Q hf hc hs hK hT K H locs ls hP hD hS hl)
theorem Rt.icmp_gt {x y : Int32} {off : Int} (tgt : Nat) (hd : decode cc pc = .ok (.if_icmp .gt off, 3)) (ht : (pc : Int) + off = (tgt : Int)) (kt : y < x → Rt X own cc nL R ri tgt L st σ r σ') (kf : ¬ (y < x) → Rt X own cc nL R ri (pc + 3) L st σ r σ') : Rt X own cc nL R ri pc L (.int y :: .int x :: st) σ r σ' := by
  intro g p l e s m args below meth c cells slots Q hf hc hs hK hT K H locs ls hP hD hS hl
  exact lv_icmp_gt hf.1 hf.2.1 hd ht (fun h => kt h g p l e s m args below meth c cells slots Q hf hc hs hK hT K H locs ls hP hD hS hl) (fun h => kf h g p l e s m args below meth c cells slots Q hf hc hs hK hT K H locs ls hP hD hS hl)
theorem Rt.if_le {x : Int32} {off : Int} (tgt : Nat) (hd : decode cc pc = .ok (.ifCond .le off, 3)) (ht : (pc : Int) + off = (tgt : Int)) (kt : x ≤ 0 → Rt X own cc nL R ri tgt L st σ r σ') (kf : ¬ (x ≤ 0) → Rt X own cc nL R ri (pc + 3) L st σ r σ') : Rt X own cc nL R ri pc L (.int x :: st) σ r σ' := by
  intro g p l e s m args below meth c cells slots Q hf hc hs hK hT K H locs ls hP hD hS hl
  exact lv_if_le hf.1 hf.2.1 hd ht (fun h => kt h g p l e s m args below meth c cells slots Q hf hc hs hK hT K H locs ls hP hD hS hl) (fun h => kf h g p l e s m args below meth c cells slots Q hf hc hs hK hT K H locs ls hP hD hS hl)
theorem Rt.icmp_le {x y : Int32} {off : Int} (tgt : Nat) (hd : decode cc pc = .ok (.if_icmp .le off, 3)) (ht : (pc : Int) + off = (tgt : Int)) (kt : x ≤ y → Rt X own cc nL R ri tgt L st σ r σ') (kf : ¬ (x ≤ y) → Rt X own cc nL R ri (pc + 3) L st σ r σ') : Rt X own cc nL R ri pc L (.int y :: .int x :: st) σ r σ' := by
  intro g p l e s m args below meth c cells slots Q hf hc hs hK hT K H locs ls hP hD hS hl
  exact lv_icmp_le hf.1 hf.2.1 hd ht (fun h => kt h g p l e s m args below meth c cells slots Q hf hc hs hK hT K H locs ls hP hD hS hl) (fun h => kf h g p l e s m args below meth c cells slots Q hf hc hs hK hT K H locs ls hP hD hS hl)
theorem Rt.goto {off : Int} (tgt : Nat) (hd : decode cc pc = .ok (.goto off, 3)) (ht : (pc : Int) + off = (tgt : Int)) (k : Rt X own cc nL R ri tgt L st σ r σ') : Rt X own cc nL R ri pc L st σ r σ' := by
  intro g p l e s m args below meth c cells slots Q hf hc hs hK hT K H locs ls hP hD hS hl
  exact lv_goto hf.1 hf.2.1 hd ht (k g p l e s m args below meth c cells slots Q hf hc hs hK hT K H locs ls hP hD hS hl)
theorem Rt.ifnonnull {x : Nat} {off : Int} (tgt : Nat) (hd : decode cc pc = .ok (.ifnonnull off, 3)) (ht : (pc : Int) + off = (tgt : Int)) (k : Rt X own cc nL R ri tgt L st σ r σ') : Rt X own cc nL R ri pc L (.ref x :: st) σ r σ' := by
  intro g p l e s m args below meth c cells slots Q hf hc hs hK hT K H locs ls hP hD hS hl
  exact lv_ifnonnull hf.1 hf.2.1 hd ht (k g p l e s m args below meth c cells slots Q hf hc hs hK hT K H locs ls hP hD hS hl)
end RtOps
