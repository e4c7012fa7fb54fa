/-! contracts and calls -/
def Wd (X : Scr) (g : Gl) (σ : Sto) (U : State) : Prop := va_P g.1 vwCl (ces g σ) U.heap ∧ va_D g.2.2.2.1 (ces g σ) ∧ va_K g.1 vwCl [(g.2.2.1, .int)] U ∧ Stt X g U U.heap
def Qa (g : Gl) (r : Option Value) (σ' : Sto) : Array Value → State → Outcome → State → Prop := fun _ st oc t => oc = .returned (r.map (cv g)) ∧ va_P g.1 vwCl (ces g σ') t.heap ∧ va_D g.2.2.2.1 (ces g σ') ∧ va_F g.2.2.2.1 st t
def rmA (f n : Nat) : Room := { frames := f, cells := 0, slots := 0, locals := n }
def AM (y : MethodName) (cc : ByteArray) (nL : Nat) (ret : Option FieldType) (fr lo : Nat) (as : List Value) (σ : Sto) (r : Option Value) (σ' : Sto) : Prop :=
  ∀ (X : Scr) (g : Gl) (l : Launch), Met l y (.code y cc nL ret :: gw) (rmA fr lo) (va_Pc (as.map (cv g)) (Wd X g σ)) (Qa g r σ') 0 0 g.2.2.2.1
theorem lv_args_cv {g : Gl} (hc : g.2.2.2.2.category = 1) (as : List Value) : ∀ i, lv_args i (as.map (cv g)) = (lv_args i as).map (cvl g) := by
  induction as with
  | nil => intro i; rfl
  | cons v vs ih =>
    intro i
    show (i, cv g v) :: lv_args (if (cv g v).category = 2 then i + 2 else i + 1) (vs.map (cv g)) = _
    rw [cv_cat hc, ih]
    rfl
theorem lg_sl_cv {g : Gl} (hc : g.2.2.2.2.category = 1) (as : List Value) : (lg_sl (as.map (cv g))).length = (lg_sl as).length := by
  induction as with
  | nil => rfl
  | cons v vs ih =>
    unfold lg_sl at ih ⊢
    rw [List.map_cons, List.flatMap_cons, List.flatMap_cons, List.length_append, List.length_append, ih, cv_cat hc]
    split <;> rfl
theorem Met.ofWF {l : Launch} {y : MethodName} {ws ws' : List Cond} {rm : Room} {Pc : Array Value → State → Prop} {Qc : Array Value → State → Outcome → State → Prop} {mc ms : Nat} {free : Addr → Prop} {cc : ByteArray} {maxL : Nat} {ret : Option FieldType}
    (hy : plainFor y = true) (hw : ws = Cond.code y cc maxL ret :: ws')
    (body : ∀ p e s m args below meth c s₁, BodyLoose p l y (headSpec ws rm) cc maxL ret e s m args below meth c s₁ → c.maxLocals = maxL → Pc args s →
      W p l e (headSpec ws rm).room s m args below meth c s.heap [] 0 0 (MQ below Qc args s mc ms free) (entryFrame m args maxL)) : Met l y ws rm Pc Qc mc ms free := by
  refine MetFree.of_bodySF (code := cc) (maxLocals := maxL) (ret := ret) hy ?_ ?_
  · intro args s m h hn
    obtain ⟨meth, c, h1, h2, h3, h4, h5, h6, -, -⟩ := Cond.code_spec hn (atoms_spec (ws := ws) h _ (by rw [hw]; exact List.mem_cons_self))
    exact ⟨meth, c, h1, h2, h3, h4, h5, h6⟩
  · intro p e s m args below meth c s₁ B hml hP _
    have hh0 : s₁.heap = s.heap := by rw [B.state]; rfl
    obtain ⟨t, a1, o, b1, b2, b3⟩ := body p e s m args below meth c s₁ B hml hP s₁ hh0 (Stand.of_body B)
    exact ⟨t, o, a1, b1, b2, ⟨b3.1, b3.2⟩⟩
/-- a method's contract out of the walk of its body, whatever it gives back -/
theorem AM.mk {y : MethodName} {cc : ByteArray} {nL : Nat} {ret : Option FieldType} {fr lo : Nat} {as : List Value} {σ : Sto} {r : Option Value} {σ' : Sto} {ri : Instr} (hy : plainName y.cls = true ∨ plainFor y = true) (hsl : (lg_sl as).length ≤ nL)
    (hend : ∀ (g : Gl) (p : Program) (l : Launch) (e : Env) (R : Room) (s : State) (m : MethodId) (args : Array Value) (below : List Frame) (meth : Method) (c : Code) (H : Heap) (locs : List Loc) (pcr : Nat) (ls : Array Slot), (g.2.2.2.2 = .null ∨ ∃ t, g.2.2.2.2 = .ref t) → p.tables.exec = Jvm.exec → c.code = cc → meth.sig.returnType = ret → meth.locks = false → (∀ t : State, t.heap = H → s.WarmedH t.vm → Qa g r σ' args s (.returned (r.map (cv g))) t) → (∀ q ∈ locs, g.2.2.2.1 q.base) → decode cc pcr = .ok (ri, 1) → W p l e R s m args below meth c H locs 0 0 (MQ below (Qa g r σ') args s 0 0 g.2.2.2.1) (F0 m pcr ls (r.toList.map (cv g))))
    (h : ∀ X : Scr, Rt X y.cls cc nL (rmA fr lo) ri 0 (lv_args 0 as) [] σ r σ') : AM y cc nL ret fr lo as σ r σ' := by
  intro X g l
  have hW : (∀ p e s m args below meth c s₁, BodyLoose p l y (headSpec (Cond.code y cc nL ret :: gw) (rmA fr lo)) cc nL ret e s m args below meth c s₁ → c.maxLocals = nL → va_Pc (as.map (cv g)) (Wd X g σ) args s →
      W p l e (headSpec (Cond.code y cc nL ret :: gw) (rmA fr lo)).room s m args below meth c s.heap [] 0 0 (MQ below (Qa g r σ') args s 0 0 g.2.2.2.1) (entryFrame m args nL)) → Met l y (Cond.code y cc nL ret :: gw) (rmA fr lo) (va_Pc (as.map (cv g)) (Wd X g σ)) (Qa g r σ') 0 0 g.2.2.2.1 := fun hB => hy.elim (fun hy => Met.ofW hy rfl hB) (fun hy => Met.ofWF hy rfl hB)
  refine hW ?_
  intro p e s m args below meth c s₁ B hml hv
  obtain ⟨rfl, hP, hD, hK, hT⟩ := hv
  have hx := B.exec
  have hb := B.bytes
  have hr := B.returns
  have hts := atoms_spec (ws := Cond.code y cc nL ret :: gw) B.pre
  have hown : s.vm.findClass y.cls = some m.cls := findClass_of_methodNamed B.named
  have hlocks := B.notSynchronized
  have hl := lv_entry (as.map (cv g)) (n := nL) (by rw [lg_sl_cv hT.cat]; exact hsl)
  rw [lg_entry_eq]
  rw [lv_args_cv hT.cat] at hl
  refine h X g p l e s m _ below meth c 0 0 _ ⟨hx, hb, hml, hown, fun w hw => hts w (List.mem_cons_of_mem _ hw)⟩ (Nat.zero_le _) (Nat.zero_le _) hK hT ?_ s.heap [] _ hP hD va_S.rf hl
  intro pcr H locs ls hd hP' hD' hS'
  exact hend g p l e _ s m _ below meth c H locs pcr ls hT.1 hx hb hr hlocks (fun t ht hW => ⟨rfl, by rw [ht]; exact hP', hD', hS'.F ht⟩) hS'.2.2 hd
section AMends
variable {y : MethodName} {cc : ByteArray} {nL fr lo : Nat} {as : List Value} {σ σ' : Sto}
theorem AM.int {v : Int32} (hy : plainName y.cls = true) (hsl : (lg_sl as).length ≤ nL) (h : ∀ X : Scr, Rt X y.cls cc nL (rmA fr lo) .ireturn 0 (lv_args 0 as) [] σ (some (.int v)) σ') : AM y cc nL (some .int) fr lo as σ (some (.int v)) σ' :=
  AM.mk (Or.inl hy) hsl (fun _ _ _ _ _ _ _ _ _ _ _ _ _ _ _ _ hx hb hr hlocks hq hf hd => W.iret hx hb hr hq hf hd hlocks) h
theorem AM.intF {v : Int32} (hy : plainFor y = true) (hsl : (lg_sl as).length ≤ nL) (h : ∀ X : Scr, Rt X y.cls cc nL (rmA fr lo) .ireturn 0 (lv_args 0 as) [] σ (some (.int v)) σ') : AM y cc nL (some .int) fr lo as σ (some (.int v)) σ' :=
  AM.mk (Or.inr hy) hsl (fun _ _ _ _ _ _ _ _ _ _ _ _ _ _ _ _ hx hb hr hlocks hq hf hd => W.iret hx hb hr hq hf hd hlocks) h
theorem AM.bool {v : Int32} (hv : v = 0 ∨ v = 1) (hy : plainName y.cls = true) (hsl : (lg_sl as).length ≤ nL) (h : ∀ X : Scr, Rt X y.cls cc nL (rmA fr lo) .ireturn 0 (lv_args 0 as) [] σ (some (.int v)) σ') : AM y cc nL (some .boolean) fr lo as σ (some (.int v)) σ' :=
  AM.mk (Or.inl hy) hsl (fun _ _ _ _ _ _ _ _ _ _ _ _ _ _ _ _ hx hb hr hlocks hq hf hd => W.zret hx hb hr (by rcases hv with e | e <;> subst e <;> rfl) hq hf hd hlocks) h
theorem AM.narrow {v : Int32} {ty : FieldType} (hn : narrow ty (.int v) = .int v) (hy : plainName y.cls = true) (hsl : (lg_sl as).length ≤ nL) (h : ∀ X : Scr, Rt X y.cls cc nL (rmA fr lo) .ireturn 0 (lv_args 0 as) [] σ (some (.int v)) σ') : AM y cc nL (some ty) fr lo as σ (some (.int v)) σ' :=
  AM.mk (Or.inl hy) hsl (fun _ _ _ _ _ _ _ _ _ _ _ _ _ _ _ _ hx hb hr hlocks hq hf hd => W.zret hx hb hr hn hq hf hd hlocks) h
theorem AM.long {v : Int64} (hy : plainName y.cls = true) (hsl : (lg_sl as).length ≤ nL) (h : ∀ X : Scr, Rt X y.cls cc nL (rmA fr lo) .lreturn 0 (lv_args 0 as) [] σ (some (.long v)) σ') : AM y cc nL (some .long) fr lo as σ (some (.long v)) σ' :=
  AM.mk (Or.inl hy) hsl (fun _ _ _ _ _ _ _ _ _ _ _ _ _ _ _ _ hx hb hr hlocks hq hf hd => W.lret hx hb hr hq hf hd hlocks) h
theorem AM.void (hy : plainName y.cls = true) (hsl : (lg_sl as).length ≤ nL) (h : ∀ X : Scr, Rt X y.cls cc nL (rmA fr lo) .return_ 0 (lv_args 0 as) [] σ none σ') : AM y cc nL none fr lo as σ none σ' :=
  AM.mk (Or.inl hy) hsl (fun _ _ _ _ _ _ _ _ _ _ _ _ _ _ _ _ hx hb hr hlocks hq hf hd => W.vret hx hb hr hq hf hd hlocks) h
theorem AM.refr {k : Nat} {C : String} (hy : plainName y.cls = true) (hsl : (lg_sl as).length ≤ nL) (h : ∀ X : Scr, Rt X y.cls cc nL (rmA fr lo) .areturn 0 (lv_args 0 as) [] σ (some (.ref k)) σ') : AM y cc nL (some (.object C)) fr lo as σ (some (.ref k)) σ' :=
  AM.mk (Or.inl hy) hsl (fun _ _ _ _ _ _ _ _ _ _ _ _ _ _ _ _ hx hb hr hlocks hq hf hd => W.aret hx hb hr (Or.inl ⟨_, rfl⟩) (Or.inr ⟨_, rfl⟩) hq hf hd hlocks) h
end AMends
-- calls
theorem run_go {p : Program} {l : Launch} {e : Env} {R : Room} {s : State} {m : MethodId} {args : Array Value} {below : List Frame} {meth : Method} {c : Code} {H : Heap} {locs : List Loc} {cells slots : Nat} {Q : State → Prop} {g : Gl} {r : Option Value} {σ' : Sto} {a : Array Value} {pc : Nat} {ls : Array Slot} {st0 st : List Value}
    (hr : va_Run p l e R s m args below meth c H locs cells slots 0 0 (F0 m pc ls st0) (st.map (cv g)) (Qa g r σ' a) g.2.2.2.1) (hS : va_S g.2.2.2.1 s.heap H locs)
    (kk : ∀ (H1 : Heap) (locs1 : List Loc), va_P g.1 vwCl (ces g σ') H1 → va_D g.2.2.2.1 (ces g σ') → va_S g.2.2.2.1 s.heap H1 locs1 → W p l e R s m args below meth c H1 locs1 cells slots Q (F0 m (pc + 3) ls ((r.toList ++ st).map (cv g)))) :
    W p l e R s m args below meth c H locs cells slots Q (F0 m pc ls st0) := by
  intro T hT X
  obtain ⟨v, st₀, t, T', L, h0, X', hL, e1, e2, ⟨hv, hP, hD, hz, hk⟩, stp⟩ := hr T hT X
  have hv : v = r.map (cv g) := by injection hv
  subst hv
  rw [h0] at hz hk
  have hst : (r.toList ++ st).map (cv g) = (r.map (cv g)).toList ++ st.map (cv g) := by cases r <;> rfl
  have kk := kk T'.heap (locs ++ L) (by rw [e1]; exact hP) hD ⟨Nat.le_trans hS.1 (by rw [e1]; exact hz), fun q h1 h2 => by rw [e1, hk q (Nat.lt_of_lt_of_le h1 hS.1) h2]; exact hS.2.1 q h1 h2, fun q hq => by
      rcases List.mem_append.mp hq with h | h
      · exact hS.2.2 q h
      · exact hL q h⟩
  rw [hst] at kk
  obtain ⟨t2, a1, b1⟩ := kk T' rfl X'
  exact ⟨t2, stp t2 a1, b1⟩
theorem wd_blind {X : Scr} {g : Gl} {σ : Sto} {av : List Value} : FrameBlind (va_Pc av (Wd X g σ)) := by
  intro a U fr mk q
  obtain ⟨q0, qP, qD, qK, qT⟩ := q
  exact ⟨q0, qP, qD, va_K.moved (u := U) (U := U.calling fr mk a) (Vm.Alike.refl U.vm) qK, Stt.same (u := U) (U := U.calling fr mk a) qT rfl⟩
theorem wd_pre {X : Scr} {g : Gl} {σ : Sto} {s : State} {H : Heap} {locs : List Loc} (hP : va_P g.1 vwCl (ces g σ) H) (hD : va_D g.2.2.2.1 (ces g σ)) (hK : va_K g.1 vwCl [(g.2.2.1, .int)] s) (hT : Stt X g s s.heap) (hS : va_S g.2.2.2.1 s.heap H locs) {av : List Value} : ∀ U : State, U.heap = H → s.WarmedH U.vm → va_Pc av (Wd X g σ) av.toArray U := by
  intro U hU hW
  refine ⟨rfl, by rw [hU]; exact hP, hD, va_K.moved hW.alike hK, ?_⟩
  rw [hU]
  exact (hT.kept hS.2.1).warm hW
def LkD (y : MethodName) (cc : ByteArray) (nL : Nat) (ret : Option FieldType) (n : Nat) : Prop := Cond.initialized y.cls ∈ gw ∧ Cond.code y cc nL ret ∈ gw ∧ y.cls ≠ "java/lang/invoke/MethodHandle" ∧ y.cls ≠ "java/lang/invoke/VarHandle" ∧ (parseMethodDescriptor y.desc).map (fun d => d.parameters.length) = some n
def LkV (own : String) (idx : Nat) (y : MethodName) (cc : ByteArray) (nL : Nat) (ret : Option FieldType) (n : Nat) : Prop := Cond.methodLink own idx y ∈ gw ∧ Cond.instanceMethod y ∈ gw ∧ Cond.selects y.cls y y ∈ gw ∧ LkD y cc nL ret n
def LkS (own : String) (idx : Nat) (y : MethodName) (cc : ByteArray) (nL : Nat) (ret : Option FieldType) (n : Nat) : Prop := Cond.methodLink own idx y ∈ gw ∧ Cond.static y ∈ gw ∧ LkD y cc nL ret n
def LkVN (own : String) (idx : Nat) (y : MethodName) (host : String) (cc : ByteArray) (nL : Nat) (ret : Option FieldType) (n : Nat) : Prop := Cond.methodLinkNest own idx y host ∈ lw_tbl ∧ Cond.instanceMethod y ∈ gw ∧ Cond.selects y.cls y y ∈ gw ∧ LkD y cc nL ret n
def LkSN (own : String) (idx : Nat) (y : MethodName) (host : String) (cc : ByteArray) (nL : Nat) (ret : Option FieldType) (n : Nat) : Prop := Cond.methodLinkNest own idx y host ∈ lw_tbl ∧ Cond.static y ∈ gw ∧ LkD y cc nL ret n
theorem gw_code {y : MethodName} {cc : ByteArray} {nL : Nat} {ret : Option FieldType} (h : Cond.code y cc nL ret ∈ gw) : GoodIn gw (Cond.code y cc nL ret :: gw) := gw_good fun w hw => by
  rcases List.mem_cons.mp hw with e | e
  · rw [e]; exact h
  · exact e
section RtCalls
variable {X : Scr} {own : String} {cc : ByteArray} {nL : Nat} {R : Room} {ri : Instr} {pc : Nat} {L : List (Nat × Value)} {st : List Value} {σ σ1 : Sto} {r : Option Value} {σ' : Sto}
  {y : MethodName} {bytes : ByteArray} {maxL n idx fr lo k : Nat} {ret : Option FieldType} {As : List Value} {r1 : Option Value}
theorem Rt.callV {ci : Nat} {fl : List (Option Nat)} {q : vw_C} (hM : AM y bytes maxL ret fr lo (.ref k :: As) σ r1 σ1) (hL : LkV own idx y bytes maxL ret n) (hlay : lay[k]? = some (.inr (ci, fl))) (hcl : vwCl[ci]? = some q) (hq : q.1 = y.cls) (hn : As.length = n) (hR : fr + 1 ≤ R.frames ∧ 8 + (maxL + 11) + lo ≤ R.locals) (hW : (st.map fun v => v.category).sum ≤ 8) (hd : decode cc pc = .ok (.invokevirtual idx, 3)) (k1 : Rt X own cc nL R ri (pc + 3) L (r1.toList ++ st) σ1 r σ') : Rt X own cc nL R ri pc L (As.reverse ++ .ref k :: st) σ r σ' := by
  intro g p l e s m args below meth c cells slots Q hf hc hs hK hT K H locs ls hP hD hS hl
  obtain ⟨h1, h2, h3, h4, h5, h6, h7, h8⟩ := hL
  have hts := hf.2.2.2.2
  have cb : CallB R s args own idx y bytes maxL ret (Cond.code y bytes maxL ret :: gw) (rmA fr lo) 0 0 n := callB_of n hts (gw_code h5) rfl rfl rfl (hts _ h4) (hts _ h1) ⟨h6, h7, h8⟩ hR
  have hrec := va_recv hK hP hcl (ces_at hlay)
  rw [hq] at hrec
  refine run_go (st := st) (va_runV (As := As.map (cv g)) (rest := st.map (cv g)) hf (hM X g l) ⟨cb, hts _ h2, hts _ h3⟩ ⟨wd_blind, hrec, wd_pre hP hD hK hT hS⟩ rfl (by rw [List.length_map]; exact hn) hl.1 ?_ (lv_room (by rw [cat_sum hT.cat]; exact hW)) hd ⟨hc, hs⟩) hS (fun H1 locs1 hP1 hD1 hS1 => k1 g p l e s m args below meth c cells slots Q hf hc hs hK hT K H1 locs1 ls hP1 hD1 hS1 hl)
  show (As.reverse ++ .ref k :: st).map (cv g) = _
  rw [List.map_append, List.map_reverse]
  rfl
theorem Rt.callVT {i : Nat} (hM : AM y bytes maxL ret fr lo (.ref (40 + i) :: As) σ r1 σ1) (hL : LkV own idx y bytes maxL ret n) (hi : i < 6) (hq : "java/lang/String" = y.cls) (hn : As.length = n) (hR : fr + 1 ≤ R.frames ∧ 8 + (maxL + 11) + lo ≤ R.locals) (hW : (st.map fun v => v.category).sum ≤ 8) (hd : decode cc pc = .ok (.invokevirtual idx, 3)) (k1 : Rt X own cc nL R ri (pc + 3) L (r1.toList ++ st) σ1 r σ') : Rt X own cc nL R ri pc L (As.reverse ++ .ref (40 + i) :: st) σ r σ' := by
  intro g p l e s m args below meth c cells slots Q hf hc hs hK hT K H locs ls hP hD hS hl
  obtain ⟨h1, h2, h3, h4, h5, h6, h7, h8⟩ := hL
  have hts := hf.2.2.2.2
  have cb : CallB R s args own idx y bytes maxL ret (Cond.code y bytes maxL ret :: gw) (rmA fr lo) 0 0 n := callB_of n hts (gw_code h5) rfl rfl rfl (hts _ h4) (hts _ h1) ⟨h6, h7, h8⟩ hR
  have hrec := vk_recv hT.2.2.2.2.2.2.2.2.2.1 hi hS
  rw [hq] at hrec
  refine run_go (st := st) (va_runV (As := As.map (cv g)) (rest := st.map (cv g)) hf (hM X g l) ⟨cb, hts _ h2, hts _ h3⟩ ⟨wd_blind, hrec, wd_pre hP hD hK hT hS⟩ rfl (by rw [List.length_map]; exact hn) hl.1 ?_ (lv_room (by rw [cat_sum hT.cat]; exact hW)) hd ⟨hc, hs⟩) hS (fun H1 locs1 hP1 hD1 hS1 => k1 g p l e s m args below meth c cells slots Q hf hc hs hK hT K H1 locs1 ls hP1 hD1 hS1 hl)
  show (As.reverse ++ .ref (40 + i) :: st).map (cv g) = _
  rw [List.map_append, List.map_reverse]
  rfl
theorem Rt.callS (hM : AM y bytes maxL ret fr lo As σ r1 σ1) (hL : LkS own idx y bytes maxL ret n) (hn : As.length = n) (hR : fr + 1 ≤ R.frames ∧ 8 + (maxL + 11) + lo ≤ R.locals) (hW : (st.map fun v => v.category).sum ≤ 8) (hd : decode cc pc = .ok (.invokestatic idx, 3)) (k1 : Rt X own cc nL R ri (pc + 3) L (r1.toList ++ st) σ1 r σ') : Rt X own cc nL R ri pc L (As.reverse ++ st) σ r σ' := by
  intro g p l e s m args below meth c cells slots Q hf hc hs hK hT K H locs ls hP hD hS hl
  obtain ⟨h1, h2, h4, h5, h6, h7, h8⟩ := hL
  have hts := hf.2.2.2.2
  have cb : CallB R s args own idx y bytes maxL ret (Cond.code y bytes maxL ret :: gw) (rmA fr lo) 0 0 n := callB_of n hts (gw_code h5) rfl rfl rfl (hts _ h4) (hts _ h1) ⟨h6, h7, h8⟩ hR
  refine run_go (st := st) (va_runS (As := As.map (cv g)) (rest := st.map (cv g)) hf (hM X g l) ⟨cb, hts _ h2⟩ ⟨wd_blind, wd_pre hP hD hK hT hS⟩ rfl (by rw [List.length_map]; exact hn) hl.1 ?_ (lv_room (by rw [cat_sum hT.cat]; exact hW)) hd ⟨hc, hs⟩) hS (fun H1 locs1 hP1 hD1 hS1 => k1 g p l e s m args below meth c cells slots Q hf hc hs hK hT K H1 locs1 ls hP1 hD1 hS1 hl)
  show (As.reverse ++ st).map (cv g) = _
  rw [List.map_append, List.map_reverse]
theorem Rt.callVN {ci : Nat} {fl : List (Option Nat)} {q : vw_C} {host : String} (hM : AM y bytes maxL ret fr lo (.ref k :: As) σ r1 σ1) (hL : LkVN own idx y host bytes maxL ret n) (hlay : lay[k]? = some (.inr (ci, fl))) (hcl : vwCl[ci]? = some q) (hq : q.1 = y.cls) (hn : As.length = n) (hR : fr + 1 ≤ R.frames ∧ 8 + (maxL + 11) + lo ≤ R.locals) (hW : (st.map fun v => v.category).sum ≤ 8) (hd : decode cc pc = .ok (.invokevirtual idx, 3)) (k1 : Rt X own cc nL R ri (pc + 3) L (r1.toList ++ st) σ1 r σ') : Rt X own cc nL R ri pc L (As.reverse ++ .ref k :: st) σ r σ' := by
  intro g p l e s m args below meth c cells slots Q hf hc hs hK hT K H locs ls hP hD hS hl
  obtain ⟨h1, h2, h3, h4, h5, h6, h7, h8⟩ := hL
  have hts := hf.2.2.2.2
  have cb : va_CN R s args own idx y host bytes maxL ret (Cond.code y bytes maxL ret :: gw) (rmA fr lo) 0 0 n := va_cnB n hts (gw_code h5) rfl rfl rfl (hT.2.1 _ h1 rfl) (hts _ h4) ⟨h6, h7, h8⟩ hR
  have hrec := va_recv hK hP hcl (ces_at hlay)
  rw [hq] at hrec
  refine run_go (st := st) (va_runVN (As := As.map (cv g)) (rest := st.map (cv g)) hf (hM X g l) ⟨cb, hts _ h2, hts _ h3⟩ ⟨wd_blind, hrec, wd_pre hP hD hK hT hS⟩ rfl (by rw [List.length_map]; exact hn) hl.1 ?_ (lv_room (by rw [cat_sum hT.cat]; exact hW)) hd ⟨hc, hs⟩) hS (fun H1 locs1 hP1 hD1 hS1 => k1 g p l e s m args below meth c cells slots Q hf hc hs hK hT K H1 locs1 ls hP1 hD1 hS1 hl)
  show (As.reverse ++ .ref k :: st).map (cv g) = _
  rw [List.map_append, List.map_reverse]
  rfl
theorem Rt.callSN {host : String} (hM : AM y bytes maxL ret fr lo As σ r1 σ1) (hL : LkSN own idx y host bytes maxL ret n) (hn : As.length = n) (hR : fr + 1 ≤ R.frames ∧ 8 + (maxL + 11) + lo ≤ R.locals) (hW : (st.map fun v => v.category).sum ≤ 8) (hd : decode cc pc = .ok (.invokestatic idx, 3)) (k1 : Rt X own cc nL R ri (pc + 3) L (r1.toList ++ st) σ1 r σ') : Rt X own cc nL R ri pc L (As.reverse ++ st) σ r σ' := by
  intro g p l e s m args below meth c cells slots Q hf hc hs hK hT K H locs ls hP hD hS hl
  obtain ⟨h1, h2, h4, h5, h6, h7, h8⟩ := hL
  have hts := hf.2.2.2.2
  have cb : va_CN R s args own idx y host bytes maxL ret (Cond.code y bytes maxL ret :: gw) (rmA fr lo) 0 0 n := va_cnB n hts (gw_code h5) rfl rfl rfl (hT.2.1 _ h1 rfl) (hts _ h4) ⟨h6, h7, h8⟩ hR
  refine run_go (st := st) (va_runSN (As := As.map (cv g)) (rest := st.map (cv g)) hf (hM X g l) ⟨cb, hts _ h2, trivial⟩ ⟨wd_blind, wd_pre hP hD hK hT hS⟩ rfl (by rw [List.length_map]; exact hn) hl.1 ?_ (lv_room (by rw [cat_sum hT.cat]; exact hW)) hd ⟨hc, hs⟩) hS (fun H1 locs1 hP1 hD1 hS1 => k1 g p l e s m args below meth c cells slots Q hf hc hs hK hT K H1 locs1 ls hP1 hD1 hS1 hl)
  show (As.reverse ++ st).map (cv g) = _
  rw [List.map_append, List.map_reverse]
end RtCalls
