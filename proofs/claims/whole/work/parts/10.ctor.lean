/-! constructors: worlds told whole, cell by cell -/
def Nst (U : State) : Prop := ∀ w ∈ lw_tbl, isNest w = true → va_Nw w U
theorem Nst.warm {s U : State} (h : Nst s) (hW : s.WarmedH U.vm) : Nst U := fun w hw hn => nest_warm hn hW (h w hw hn)
theorem Nst.same {u U : State} (h : Nst u) (hv : u.vm = U.vm) : Nst U := fun w hw hn => nest_same hn hv (h w hw hn)
abbrev zf : Nat → Int32 := fun _ => 0
def Cr (D : va_G) (cy : ClassId) (A : Nat → Prop) (own : String) (cc : ByteArray) (nL : Nat) (R : Room) (mc ms : Nat) (P : va_W → Prop) (h0 : Nat) (pc : Nat) (st : List Value) (ws : va_W) (cells slots : Nat) : Prop :=
  ∀ (p : Program) (l : Launch) (e : Env) (s : State) (m : MethodId) (args : Array Value) (below : List Frame) (meth : Method) (c : Code) (Q : State → Prop),
    CallFix p m c cc nL s args gw own → meth.name = "<init>" → va_K D vwCl [(cy, .int)] s → Nst s → (∀ q, s.heap.size ≤ q → A q) →
    (∀ (pcr : Nat) (H : Heap) (locs : List Loc) (ls : Array Slot) (ws' : va_W), decode cc pcr = .ok (.return_, 1) → P ws' → va_P D vwCl ws' H → va_D A ws' → va_S A s.heap H locs → W p l e R s m args below meth c H locs mc ms Q (F0 m pcr ls [])) →
    ∀ (H : Heap) (locs : List Loc) (ls : Array Slot), va_P D vwCl ws H → va_D A ws → va_S A s.heap H locs → lv_has ls nL [(0, .ref h0)] →
      W p l e R s m args below meth c H locs cells slots Q (F0 m pc ls st)
section CrOps
variable {D : va_G} {cy : ClassId} {A : Nat → Prop} {own : String} {cc : ByteArray} {nL : Nat} {R : Room} {mc ms : Nat} {P : va_W → Prop} {h0 pc : Nat} {st : List Value} {ws ws' : va_W} {cells slots : Nat}
theorem Cr.ret (hd : decode cc pc = .ok (.return_, 1)) (hP : P ws) (hc : cells = mc) (hs : slots = ms) : Cr D cy A own cc nL R mc ms P h0 pc [] ws cells slots := by
  subst hc; subst hs
  intro p l e s m args below meth c Q hf hn hK hN hA K H locs ls hP1 hD hS hl
  exact K pc H locs ls ws hd hP hP1 hD hS
theorem Cr.aload0 (hd : decode cc pc = .ok (.aload_n 0, 1)) (k : Cr D cy A own cc nL R mc ms P h0 (pc + 1) (.ref h0 :: st) ws cells slots) : Cr D cy A own cc nL R mc ms P h0 pc st ws cells slots := by
  intro p l e s m args below meth c Q hf hn hK hN hA K H locs ls hP hD hS hl
  exact lv_aload_n hf.1 hf.2.1 hd rfl (lv_at hl 0 rfl) (k p l e s m args below meth c Q hf hn hK hN hA K H locs ls hP hD hS hl)
theorem Cr.iconst {n : Int} (v : Int32) (hd : decode cc pc = .ok (.iconst n, 1)) (hv : Int32.ofInt n = v) (k : Cr D cy A own cc nL R mc ms P h0 (pc + 1) (.int v :: st) ws cells slots) : Cr D cy A own cc nL R mc ms P h0 pc st ws cells slots := by
  intro p l e s m args below meth c Q hf hn hK hN hA K H locs ls hP hD hS hl
  exact lv_iconst (v := v) hf.1 hf.2.1 hd hv (k p l e s m args below meth c Q hf hn hK hN hA K H locs ls hP hD hS hl)
theorem Cr.bipush {n : Int} (v : Int32) (hd : decode cc pc = .ok (.bipush n, 2)) (hv : (Int8.ofInt n).toInt32 = v) (k : Cr D cy A own cc nL R mc ms P h0 (pc + 2) (.int v :: st) ws cells slots) : Cr D cy A own cc nL R mc ms P h0 pc st ws cells slots := by
  intro p l e s m args below meth c Q hf hn hK hN hA K H locs ls hP hD hS hl
  exact lv_bipush (v := v) hf.1 hf.2.1 hd hv (k p l e s m args below meth c Q hf hn hK hN hA K H locs ls hP hD hS hl)
theorem Cr.dup {v : Value} (hd : decode cc pc = .ok (.dup, 1)) (hv : v.category = 1) (k : Cr D cy A own cc nL R mc ms P h0 (pc + 1) (v :: v :: st) ws cells slots) : Cr D cy A own cc nL R mc ms P h0 pc (v :: st) ws cells slots := by
  intro p l e s m args below meth c Q hf hn hK hN hA K H locs ls hP hD hS hl
  exact lv_dup hf.1 hf.2.1 hd hv (k p l e s m args below meth c Q hf hn hK hN hA K H locs ls hP hD hS hl)
theorem Cr.objInit {idx a : Nat} (h1 : Cond.methodLink own idx objectInit ∈ gw) (h2 : Cond.instanceMethod objectInit ∈ gw) (h3 : Cond.code objectInit ⟨#[0xb1]⟩ 1 none ∈ gw) (hfr : 1 ≤ R.frames) (hlo : (st.map fun v => v.category).sum + 12 ≤ R.locals) (hd : decode cc pc = .ok (.invokespecial idx, 3)) (k : Cr D cy A own cc nL R mc ms P h0 (pc + 3) st ws cells slots) : Cr D cy A own cc nL R mc ms P h0 pc (.ref a :: st) ws cells slots := by
  intro p l e s m args below meth c Q hf hn hK hN hA K H locs ls hP hD hS hl
  exact W.objInit hf.1 hf.2.1 hf.2.2.2.1 (hf.2.2.2.2 _ h1) (hf.2.2.2.2 _ h2) (hf.2.2.2.2 _ h3) rfl (by rw [hf.2.2.1]; exact hl.1) rfl hd hfr (by show 2 * (F0 m pc ls (.ref a :: st)).monitorRoom + _ + 12 ≤ _; simpa [JFrame.monitorRoom] using hlo) (k p l e s m args below meth c Q hf hn hK hN hA K H locs ls hP hD hS hl)
theorem Cr.newa {n : Int32} (N : Nat) (ws' : Nat → va_W) (h1 : Cond.arrayClass .int ∈ gw) (hn0 : ¬ n < 0) (hN : n.toNatClampNeg = N) (hb : N * componentBytes .int ≤ 536870912) (hc : cells + 1 ≤ R.cells) (hs : slots + N ≤ R.slots) (hw : ∀ q, ws ++ [(q, .inl (cy, N, .inl zf))] = ws' q) (hd : decode cc pc = .ok (.newarray .int, 2)) (k : ∀ q, Cr D cy A own cc nL R mc ms P h0 (pc + 2) (.ref q :: st) (ws' q) (cells + 1) (slots + N)) : Cr D cy A own cc nL R mc ms P h0 pc (.int n :: st) ws cells slots := by
  intro p l e s m args below meth c Q hf hn hK hNs hA K H locs ls hP hD hS hl
  refine va_newa (atype := .int) (ty := .int) (a0 := (N, .inl zf)) hf.1 hf.2.1 (hf.2.2.2.2 _ h1) rfl hK hP hD hS hA (fun _ => rfl) hn0 hN hb hc hs hd (fun q cA H1 hK1 hP1 hD1 hS1 => ?_)
  have e1 : s.vm.findClass ("[" ++ FieldType.int.toString) = some cA := (hK1.2 1 _ rfl).2
  have e2 : s.vm.findClass ("[" ++ FieldType.int.toString) = some cy := (hK.2 0 _ rfl).2
  have e3 : cA = cy := Option.some.inj (e1.symm.trans e2)
  subst e3
  rw [hw q] at hP1 hD1
  exact k q p l e s m args below meth c Q hf hn hK hNs hA K H1 locs ls hP1 hD1 hS1 hl
theorem Cr.putI {k ci j idx N a : Nat} {fs : List Value} {C : String} {T : u_T} {ty0 : Nat → FieldType} {ty : FieldType} {x : Int32} (ws' : va_W) (he : ws[k]? = some (a, .inr (ci, fs))) (hcl : vwCl[ci]? = some (C, T, N)) (hin : ∀ w ∈ u_ws C T N, w ∈ gw) (hty : ∀ k, k < N → parseFieldDescriptor (T k).2.2.1 = some (ty0 k)) (hnm : ∀ a, a < N → ∀ b, b < N → a ≠ b → (T a).2.1 ≠ (T b).2.1) (hN : j < N) (hfin : (T j).2.2.2 = false) (hpt : ty0 j = ty) (hn : narrow ty (.int x) = .int x) (hfit : fits ty (.int x) = true) (hj : j < fs.length) (hm : Cond.fieldLink own idx (T j).1 (T j).2.1 (T j).2.2.1 ∈ gw) (hw : ws.set k (a, .inr (ci, fs.set j (.int x))) = ws') (hd : decode cc pc = .ok (.putfield idx, 3)) (k1 : Cr D cy A own cc nL R mc ms P h0 (pc + 3) st ws' cells slots) : Cr D cy A own cc nL R mc ms P h0 pc (.int x :: .ref a :: st) ws cells slots := by
  intro p l e s m args below meth c Q hf hnn hK hNs hA K H locs ls hP hD hS hl
  refine va_put (v := .int x) (ty := ty) hf.1 hf.2.1 hf.2.2.2.2 hin ty0 hty hnm hf.2.2.2.1 hK hP hD hS k he hcl j hN (hf.2.2.2.2 _ hm) (fun _ h => h) hfin (by rw [hty j hN, hpt]) hn hfit hj hd (fun H1 locs1 hP1 hD1 hS1 => ?_)
  rw [hw] at hP1 hD1
  exact k1 p l e s m args below meth c Q hf hnn hK hNs hA K H1 locs1 ls hP1 hD1 hS1 hl
theorem Cr.putF {k ci j idx N a b : Nat} {fs : List Value} {C : String} {T : u_T} {ty0 : Nat → FieldType} {ty : FieldType} (ws' : va_W) (he : ws[k]? = some (a, .inr (ci, fs))) (hcl : vwCl[ci]? = some (C, T, N)) (hin : ∀ w ∈ u_ws C T N, w ∈ gw) (hty : ∀ k, k < N → parseFieldDescriptor (T k).2.2.1 = some (ty0 k)) (hnm : ∀ a, a < N → ∀ b, b < N → a ≠ b → (T a).2.1 ≠ (T b).2.1) (hN : j < N) (hfin : (T j).2.2.2 = true) (hdc : (T j).1 = own) (hpt : ty0 j = ty) (hn : narrow ty (.ref b) = .ref b) (hfit : fits ty (.ref b) = true) (hj : j < fs.length) (hm : Cond.fieldLink own idx (T j).1 (T j).2.1 (T j).2.2.1 ∈ gw) (hw : ws.set k (a, .inr (ci, fs.set j (.ref b))) = ws') (hd : decode cc pc = .ok (.putfield idx, 3)) (k1 : Cr D cy A own cc nL R mc ms P h0 (pc + 3) st ws' cells slots) : Cr D cy A own cc nL R mc ms P h0 pc (.ref b :: .ref a :: st) ws cells slots := by
  intro p l e s m args below meth c Q hf hnn hK hNs hA K H locs ls hP hD hS hl
  refine va_putF (v := .ref b) (ty := ty) hf.1 hf.2.1 hf.2.2.2.2 hin ty0 hty hnm hf.2.2.2.1 hK hP hD hS k he hcl j hN (hf.2.2.2.2 _ hm) (fun _ h => h) hfin hnn hdc (by rw [hty j hN, hpt]) hn hfit hj hd (fun H1 locs1 hP1 hD1 hS1 => ?_)
  rw [hw] at hP1 hD1
  exact k1 p l e s m args below meth c Q hf hnn hK hNs hA K H1 locs1 ls hP1 hD1 hS1 hl
theorem Cr.getR {k ci j idx N a b : Nat} {fs : List Value} {C : String} {T : u_T} (he : ws[k]? = some (a, .inr (ci, fs))) (hcl : vwCl[ci]? = some (C, T, N)) (hin : ∀ w ∈ u_ws C T N, w ∈ gw) (hN : j < N) (hj : fs[j]? = some (.ref b)) (hm : Cond.fieldLink own idx (T j).1 (T j).2.1 (T j).2.2.1 ∈ gw) (hd : decode cc pc = .ok (.getfield idx, 3)) (k1 : Cr D cy A own cc nL R mc ms P h0 (pc + 3) (.ref b :: st) ws cells slots) : Cr D cy A own cc nL R mc ms P h0 pc (.ref a :: st) ws cells slots := by
  intro p l e s m args below meth c Q hf hnn hK hNs hA K H locs ls hP hD hS hl
  exact va_get (v := .ref b) hf.1 hf.2.1 hf.2.2.2.2 hin hf.2.2.2.1 hK hP k he hcl j hN (hf.2.2.2.2 _ hm) (fun _ h => h) hj hd (k1 p l e s m args below meth c Q hf hnn hK hNs hA K H locs ls hP hD hS hl)
theorem Cr.iast {k n a : Nat} {i x : Int32} {f : Nat → Int32} (ws' : va_W) (he : ws[k]? = some (a, .inl (cy, n, .inl f))) (hi : inb i n = true) (hw : ws.set k (a, .inl (cy, n, .inl (upd f i.toNatClampNeg x))) = ws') (hd : decode cc pc = .ok (.iastore, 1)) (k1 : Cr D cy A own cc nL R mc ms P h0 (pc + 1) st ws' cells slots) : Cr D cy A own cc nL R mc ms P h0 pc (.int x :: .int i :: .ref a :: st) ws cells slots := by
  intro p l e s m args below meth c Q hf hnn hK hNs hA K H locs ls hP hD hS hl
  refine va_iast hf.1 hf.2.1 hK hP hD hS k 0 he rfl (inb_vp hi) hd (fun H1 locs1 hP1 hD1 hS1 => ?_)
  rw [hw] at hP1 hD1
  exact k1 p l e s m args below meth c Q hf hnn hK hNs hA K H1 locs1 ls hP1 hD1 hS1 hl
theorem Cr.new {ci idx N : Nat} {C : String} {T : u_T} {ty0 : Nat → FieldType} (fs : List Value) (ws' : Nat → va_W) (hcl : vwCl[ci]? = some (C, T, N)) (hin : ∀ w ∈ u_ws C T N, w ∈ gw) (hty : ∀ k, k < N → parseFieldDescriptor (T k).2.2.1 = some (ty0 k)) (h1 : Cond.classLink own idx C ∈ gw) (h2 : Cond.instantiable C N ∈ gw) (h3 : Cond.initialized C ∈ gw) (hfs : ∀ j, j < N → defaultValue (ty0 j) = vp_V fs j) (hc : cells + 1 ≤ R.cells) (hs : slots + N ≤ R.slots) (hw : ∀ q, ws ++ [(q, .inr (ci, fs))] = ws' q) (hd : decode cc pc = .ok (.new idx, 3)) (k : ∀ q, Cr D cy A own cc nL R mc ms P h0 (pc + 3) (.ref q :: st) (ws' q) (cells + 1) (slots + N)) : Cr D cy A own cc nL R mc ms P h0 pc st ws cells slots := by
  intro p l e s m args below meth c Q hf hn hK hNs hA K H locs ls hP hD hS hl
  refine va_new (ci := ci) (fs := fs) (C := C) (T := T) (N := N) hf.1 hf.2.1 hf.2.2.2.2 hin ty0 hty hf.2.2.2.1 (hf.2.2.2.2 _ h1) (hf.2.2.2.2 _ h2) (hf.2.2.2.2 _ h3) hK hP hD hS hA hcl hfs hc hs hd (fun q H1 hP1 hD1 hS1 => ?_)
  rw [hw q] at hP1 hD1
  exact k q p l e s m args below meth c Q hf hn hK hNs hA K H1 locs ls hP1 hD1 hS1 hl
end CrOps
/-- a constructor's contract: from its object as 'new' leaves it, to a world of which P tells -/
def IC (y : MethodName) (cc : ByteArray) (nL mc ms fr lo ci : Nat) (fs0 : List Value) (P : Nat → ClassId → va_W → Prop) : Prop :=
  ∀ (l : Launch) (D : va_G) (cy : ClassId) (h0 sz : Nat), Met l y (.code y cc nL none :: gw) { frames := fr, cells := mc, slots := ms, locals := lo }
    (va_Pc [.ref h0] (fun U => U.heap.size = sz ∧ va_P D vwCl [(h0, .inr (ci, fs0))] U.heap ∧ va_K D vwCl [(cy, .int)] U ∧ va_D (fun _ => True) [(h0, .inr (ci, fs0))] ∧ Nst U))
    (va_Qv (fun w : va_W => P h0 cy w) (fun w t => va_P D vwCl w t.heap ∧ va_D (va_A [(h0, .inr (ci, fs0))] sz) w) (va_A [(h0, .inr (ci, fs0))] sz)) mc ms (va_A [(h0, .inr (ci, fs0))] sz)
theorem IC.mk {y : MethodName} {cc : ByteArray} {nL mc ms fr lo ci : Nat} {fs0 : List Value} {P : Nat → ClassId → va_W → Prop} (hy : plainName y.cls = true) (hin : y.name = "<init>") (hnL : 1 ≤ nL)
    (h : ∀ (D : va_G) (cy : ClassId) (A : Nat → Prop) (h0 : Nat), Cr D cy A y.cls cc nL { frames := fr, cells := mc, slots := ms, locals := lo } mc ms (P h0 cy) h0 0 [] [(h0, .inr (ci, fs0))] 0 0) : IC y cc nL mc ms fr lo ci fs0 P := by
  intro l D cy h0 sz
  refine Met.ofW (cc := cc) (maxL := nL) (ret := none) hy rfl ?_
  intro p e s m args below meth c s₁ B hml hv
  obtain ⟨rfl, hsz, hP, hK, hD0, hN⟩ := hv
  have hx := B.exec
  have hb := B.bytes
  have hr := B.returns
  have hts := atoms_spec (ws := Cond.code y cc nL none :: gw) B.pre
  have hown : s.vm.findClass y.cls = some m.cls := findClass_of_methodNamed B.named
  have hlocks := B.notSynchronized
  have hi : meth.name = "<init>" := (name_of_methodNamed B.named B.method).1.trans hin
  subst hsz
  have hD := hD0.self (sz := s.heap.size)
  have hA : ∀ q : Nat, s.heap.size ≤ q → va_A [(h0, .inr (ci, fs0))] s.heap.size q := fun q h => Or.inr h
  have hl := lv_entry ([.ref h0]) (n := nL) hnL
  rw [lg_entry_eq]
  refine h D cy _ h0 p l e s m _ below meth c _ ⟨hx, hb, hml, hown, fun w hw => hts w (List.mem_cons_of_mem _ hw)⟩ hi hK hN hA ?_ s.heap [] _ hP hD va_S.rf hl
  intro pcr H locs ls w hd hPw hP' hD' hS'
  exact W.vret hx hb hr (fun t ht hW => ⟨⟨w, rfl, hPw, by rw [ht]; exact hP', hD'⟩, hS'.F ht⟩) hS'.2.2 hd hlocks
theorem ic_blind {D : va_G} {cy : ClassId} {sz : Nat} {av : List Value} {ws : va_W} : FrameBlind (va_Pc av (fun U => U.heap.size = sz ∧ va_P D vwCl ws U.heap ∧ va_K D vwCl [(cy, .int)] U ∧ va_D (fun _ => True) ws ∧ Nst U)) := by
  intro a U fr mk q
  obtain ⟨q0, q1, qP, qK, qD, qN⟩ := q
  exact ⟨q0, q1, qP, va_K.moved (u := U) (U := U.calling fr mk a) (Vm.Alike.refl U.vm) qK, qD, Nst.same (u := U) (U := U.calling fr mk a) qN rfl⟩
theorem Cr.call {D : va_G} {cy : ClassId} {A : Nat → Prop} {own : String} {cc : ByteArray} {nL : Nat} {R : Room} {mc ms : Nat} {P : va_W → Prop} {h0 pc : Nat} {st : List Value} {ws wr : va_W} {cells slots : Nat}
    {y : MethodName} {bytes : ByteArray} {maxL mc1 ms1 fr lo ci idx a : Nat} {fs0 : List Value} {P1 : Nat → ClassId → va_W → Prop} {host : String} (hM : IC y bytes maxL mc1 ms1 fr lo ci fs0 P1) (hl1 : Cond.methodLinkNest own idx y host ∈ lw_tbl) (hi1 : Cond.instanceMethod y ∈ gw) (hL : LkD y bytes maxL none 0) (hyn : y.name = "<init>") (hR : fr + 1 ≤ R.frames ∧ 8 + (maxL + 11) + lo ≤ R.locals) (hc : cells + mc1 ≤ R.cells) (hs : slots + ms1 ≤ R.slots) (hW : (st.map fun v => v.category).sum ≤ 8)
    (isR : List Nat) (q0 : Nat) (hq0 : [q0].map (fun i => ws[i]?) = [(a, (.inr (ci, fs0) : va_E))].map some) (hRr : isR.map (fun i => ws[i]?) = wr.map some) (hnd : va_nd isR = true) (hdis : ∀ i ∈ isR, i ∉ [q0]) (hd : decode cc pc = .ok (.invokespecial idx, 3))
    (k1 : ∀ w1, P1 a cy w1 → Cr D cy A own cc nL R mc ms P h0 (pc + 3) st (wr ++ w1) (cells + mc1) (slots + ms1)) : Cr D cy A own cc nL R mc ms P h0 pc (.ref a :: st) ws cells slots := by
  intro p l e s m args below meth c Q hf hn hK hNs hA K H locs ls hP hD hS hl
  obtain ⟨h4, h5, h6, h7, h8⟩ := hL
  have hts := hf.2.2.2.2
  have cb := va_cnB (R := R) (s := s) (args := args) (rm := { frames := fr, cells := mc1, slots := ms1, locals := lo }) (mc := mc1) (ms := ms1) 0 hts (gw_code h5) rfl rfl rfl (hNs _ hl1 rfl) (hts _ h4) ⟨h6, h7, h8⟩ hR
  have hwe : [q0].filterMap (fun i => ws[i]?) = [(a, (.inr (ci, fs0) : va_E))] := by
    have : ws[q0]? = some (a, (.inr (ci, fs0) : va_E)) := by simpa using hq0
    simp [this]
  have hPc := hP.sub (ws' := [(a, .inr (ci, fs0))]) [q0] hwe
  have hDc : va_D (fun _ => True) [(a, (.inr (ci, fs0) : va_E))] := ⟨fun i j p q h1 h2 _ => by
    have i1 : i < 1 := (List.getElem?_eq_some_iff.mp h1).1
    have j1 : j < 1 := (List.getElem?_eq_some_iff.mp h2).1
    omega, fun _ _ _ => trivial⟩
  have hFc := va_free (wc := [(a, .inr (ci, fs0))]) hD hS hA [q0] hq0
  refine va_callv (va_runIN (As := []) (rest := st) hf (hM l D cy a H.size) ⟨cb, hyn, hts _ hi1⟩ ⟨ic_blind, fun U hU hW => ⟨rfl, by rw [hU], by rw [hU]; exact hPc, va_K.moved hW.alike hK, hDc, hNs.warm hW⟩⟩ rfl rfl hl.1 rfl (lv_room hW) hd ⟨hc, hs⟩) hS (fun q _ h => hFc q h) hFc (fun u t H1 locs ht hvm hw hB hz1 hk1 hS => ?_)
  obtain ⟨hP1, hD1⟩ := hB
  rw [ht] at hP1
  obtain ⟨hP, hD⟩ := va_join (wr := wr) (w1 := u) hP hD [q0] isR hq0 hRr hnd hdis hk1 hFc hP1 hD1
  exact k1 u hw p l e s m args below meth c Q hf hn hK hNs hA K H1 locs ls hP hD hS hl
