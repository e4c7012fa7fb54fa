/-! fields, rows, tables, calls, contracts -/
def inb (i : Int32) (n : Nat) : Bool := !(decide (i < 0)) && decide (i.toNatClampNeg < n)
theorem inb_vp {i : Int32} {n : Nat} (h : inb i n = true) : vp_in i n := by
  unfold inb at h
  rw [Bool.and_eq_true, Bool.not_eq_true', decide_eq_false_iff_not, decide_eq_true_iff] at h
  intro q
  rcases q with q | q
  · exact h.1 q
  · exact absurd h.2 (Nat.not_lt.mpr q)
theorem fs_at {g : Gl} {σ : Sto} {k j : Nat} {fl : List (Option Nat)} {f : Option Nat} (h : fl[j]? = some f) : (fl.mapIdx (fdV g σ k))[j]? = some (fdV g σ k j f) := by
  rw [List.getElem?_mapIdx, h]; rfl
theorem cat_sum {g : Gl} (hc : g.2.2.2.2.category = 1) (st : List Value) : ((st.map (cv g)).map fun v => v.category).sum = (st.map fun v => v.category).sum := by
  rw [List.map_map]
  congr 1
  refine List.map_congr_left fun v _ => ?_
  exact cv_cat hc v
section RtHeap
variable {X : Scr} {own : String} {cc : ByteArray} {nL : Nat} {R : Room} {ri : Instr} {pc : Nat} {L L' : List (Nat × Value)} {st : List Value} {σ : Sto} {r : Option Value} {σ' : Sto}
theorem Rt.getI {k ci j idx N : Nat} {fl : List (Option Nat)} {C : String} {T : u_T} (hlay : lay[k]? = some (.inr (ci, fl))) (hcl : vwCl[ci]? = some (C, T, N)) (hin : ∀ w ∈ u_ws C T N, w ∈ gw) (hN : j < N) (hj : fl[j]? = some none) (hm : Cond.fieldLink own idx (T j).1 (T j).2.1 (T j).2.2.1 ∈ gw) (hd : decode cc pc = .ok (.getfield idx, 3)) (k1 : Rt X own cc nL R ri (pc + 3) L (.int (σ k j) :: st) σ r σ') : Rt X own cc nL R ri pc L (.ref k :: st) σ r σ' := by
  intro g p l e s m args below meth c cells slots Q hf hc hs hK hT K H locs ls hP hD hS hl
  exact va_get (v := .int (σ k j)) hf.1 hf.2.1 hf.2.2.2.2 hin hf.2.2.2.1 hK hP k (ces_at hlay) hcl j hN (hf.2.2.2.2 _ hm) (fun _ h => h) (fs_at hj) hd (k1 g p l e s m args below meth c cells slots Q hf hc hs hK hT K H locs ls hP hD hS hl)
theorem Rt.getR {k ci j idx N f : Nat} {fl : List (Option Nat)} {C : String} {T : u_T} (hlay : lay[k]? = some (.inr (ci, fl))) (hcl : vwCl[ci]? = some (C, T, N)) (hin : ∀ w ∈ u_ws C T N, w ∈ gw) (hN : j < N) (hj : fl[j]? = some (some f)) (hm : Cond.fieldLink own idx (T j).1 (T j).2.1 (T j).2.2.1 ∈ gw) (hd : decode cc pc = .ok (.getfield idx, 3)) (k1 : Rt X own cc nL R ri (pc + 3) L (.ref f :: st) σ r σ') : Rt X own cc nL R ri pc L (.ref k :: st) σ r σ' := by
  intro g p l e s m args below meth c cells slots Q hf hc hs hK hT K H locs ls hP hD hS hl
  exact va_get (v := .ref (g.2.1 f)) hf.1 hf.2.1 hf.2.2.2.2 hin hf.2.2.2.1 hK hP k (ces_at hlay) hcl j hN (hf.2.2.2.2 _ hm) (fun _ h => h) (fs_at hj) hd (k1 g p l e s m args below meth c cells slots Q hf hc hs hK hT K H locs ls hP hD hS hl)
theorem Rt.getIN {k ci j idx N : Nat} {fl : List (Option Nat)} {C host : String} {T : u_T} (hlay : lay[k]? = some (.inr (ci, fl))) (hcl : vwCl[ci]? = some (C, T, N)) (hin : ∀ w ∈ u_ws C T N, w ∈ gw) (hN : j < N) (hj : fl[j]? = some none) (hm : Cond.fieldLinkNest own idx (T j).1 (T j).2.1 (T j).2.2.1 host ∈ lw_tbl) (hd : decode cc pc = .ok (.getfield idx, 3)) (k1 : Rt X own cc nL R ri (pc + 3) L (.int (σ k j) :: st) σ r σ') : Rt X own cc nL R ri pc L (.ref k :: st) σ r σ' := by
  intro g p l e s m args below meth c cells slots Q hf hc hs hK hT K H locs ls hP hD hS hl
  exact va_getN (v := .int (σ k j)) hf.1 hf.2.1 hf.2.2.2.2 hin hf.2.2.2.1 hK hP k (ces_at hlay) hcl j hN (nest_use rfl (hT.2.1 _ hm rfl)) (fun _ h => h) (fs_at hj) hd (k1 g p l e s m args below meth c cells slots Q hf hc hs hK hT K H locs ls hP hD hS hl)
theorem Rt.getRN {k ci j idx N f : Nat} {fl : List (Option Nat)} {C host : String} {T : u_T} (hlay : lay[k]? = some (.inr (ci, fl))) (hcl : vwCl[ci]? = some (C, T, N)) (hin : ∀ w ∈ u_ws C T N, w ∈ gw) (hN : j < N) (hj : fl[j]? = some (some f)) (hm : Cond.fieldLinkNest own idx (T j).1 (T j).2.1 (T j).2.2.1 host ∈ lw_tbl) (hd : decode cc pc = .ok (.getfield idx, 3)) (k1 : Rt X own cc nL R ri (pc + 3) L (.ref f :: st) σ r σ') : Rt X own cc nL R ri pc L (.ref k :: st) σ r σ' := by
  intro g p l e s m args below meth c cells slots Q hf hc hs hK hT K H locs ls hP hD hS hl
  exact va_getN (v := .ref (g.2.1 f)) hf.1 hf.2.1 hf.2.2.2.2 hin hf.2.2.2.1 hK hP k (ces_at hlay) hcl j hN (nest_use rfl (hT.2.1 _ hm rfl)) (fun _ h => h) (fs_at hj) hd (k1 g p l e s m args below meth c cells slots Q hf hc hs hK hT K H locs ls hP hD hS hl)
theorem Rt.putI {k ci j idx N : Nat} {fl : List (Option Nat)} {C : String} {T : u_T} {ty0 : Nat → FieldType} {ty : FieldType} {x : Int32} (hlay : lay[k]? = some (.inr (ci, fl))) (hcl : vwCl[ci]? = some (C, T, N)) (hin : ∀ w ∈ u_ws C T N, w ∈ gw) (hty : ∀ k, k < N → parseFieldDescriptor (T k).2.2.1 = some (ty0 k)) (hnm : ∀ a, a < N → ∀ b, b < N → a ≠ b → (T a).2.1 ≠ (T b).2.1) (hN : j < N) (hj : fl[j]? = some none) (hfin : (T j).2.2.2 = false) (hpt : ty0 j = ty) (hn : narrow ty (.int x) = .int x) (hfit : fits ty (.int x) = true) (hm : Cond.fieldLink own idx (T j).1 (T j).2.1 (T j).2.2.1 ∈ gw) (hd : decode cc pc = .ok (.putfield idx, 3)) (k1 : Rt X own cc nL R ri (pc + 3) L st (upS σ k j x) r σ') : Rt X own cc nL R ri pc L (.int x :: .ref k :: st) σ r σ' := by
  intro g p l e s m args below meth c cells slots Q hf hc hs hK hT K H locs ls hP hD hS hl
  refine va_put (v := .int x) (ty := ty) hf.1 hf.2.1 hf.2.2.2.2 hin ty0 hty hnm hf.2.2.2.1 hK hP hD hS k (ces_at hlay) hcl j hN (hf.2.2.2.2 _ hm) (fun _ h => h) hfin (by rw [hty j hN, hpt]) hn hfit (by rw [List.length_mapIdx]; exact (List.getElem?_eq_some_iff.mp hj).1) hd (fun H1 locs1 hP1 hD1 hS1 => ?_)
  rw [ces_put hlay hj] at hP1 hD1
  exact k1 g p l e s m args below meth c cells slots Q hf hc hs hK hT K H1 locs1 ls hP1 hD1 hS1 hl
theorem Rt.putIN {k ci j idx N : Nat} {fl : List (Option Nat)} {C host : String} {T : u_T} {ty0 : Nat → FieldType} {ty : FieldType} {x : Int32} (hlay : lay[k]? = some (.inr (ci, fl))) (hcl : vwCl[ci]? = some (C, T, N)) (hin : ∀ w ∈ u_ws C T N, w ∈ gw) (hty : ∀ k, k < N → parseFieldDescriptor (T k).2.2.1 = some (ty0 k)) (hnm : ∀ a, a < N → ∀ b, b < N → a ≠ b → (T a).2.1 ≠ (T b).2.1) (hN : j < N) (hj : fl[j]? = some none) (hfin : (T j).2.2.2 = false) (hpt : ty0 j = ty) (hn : narrow ty (.int x) = .int x) (hfit : fits ty (.int x) = true) (hm : Cond.fieldLinkNest own idx (T j).1 (T j).2.1 (T j).2.2.1 host ∈ lw_tbl) (hd : decode cc pc = .ok (.putfield idx, 3)) (k1 : Rt X own cc nL R ri (pc + 3) L st (upS σ k j x) r σ') : Rt X own cc nL R ri pc L (.int x :: .ref k :: st) σ r σ' := by
  intro g p l e s m args below meth c cells slots Q hf hc hs hK hT K H locs ls hP hD hS hl
  refine va_putN (v := .int x) (ty := ty) hf.1 hf.2.1 hf.2.2.2.2 hin ty0 hty hnm hf.2.2.2.1 hK hP hD hS k (ces_at hlay) hcl j hN (nest_use rfl (hT.2.1 _ hm rfl)) (fun _ h => h) hfin (by rw [hty j hN, hpt]) hn hfit (by rw [List.length_mapIdx]; exact (List.getElem?_eq_some_iff.mp hj).1) hd (fun H1 locs1 hP1 hD1 hS1 => ?_)
  rw [ces_put hlay hj] at hP1 hD1
  exact k1 g p l e s m args below meth c cells slots Q hf hc hs hK hT K H1 locs1 ls hP1 hD1 hS1 hl
theorem Rt.iald {k n : Nat} {i : Int32} (hlay : lay[k]? = some (.inl n)) (hi : inb i n = true) (hd : decode cc pc = .ok (.iaload, 1)) (k1 : Rt X own cc nL R ri (pc + 1) L (.int (σ k i.toNatClampNeg) :: st) σ r σ') : Rt X own cc nL R ri pc L (.int i :: .ref k :: st) σ r σ' := by
  intro g p l e s m args below meth c cells slots Q hf hc hs hK hT K H locs ls hP hD hS hl
  exact va_iald hf.1 hf.2.1 hK hP k 0 (ces_at hlay) rfl (inb_vp hi) hd (k1 g p l e s m args below meth c cells slots Q hf hc hs hK hT K H locs ls hP hD hS hl)
theorem Rt.iast {k n : Nat} {i x : Int32} (hlay : lay[k]? = some (.inl n)) (hi : inb i n = true) (hd : decode cc pc = .ok (.iastore, 1)) (k1 : Rt X own cc nL R ri (pc + 1) L st (upS σ k i.toNatClampNeg x) r σ') : Rt X own cc nL R ri pc L (.int x :: .int i :: .ref k :: st) σ r σ' := by
  intro g p l e s m args below meth c cells slots Q hf hc hs hK hT K H locs ls hP hD hS hl
  refine va_iast hf.1 hf.2.1 hK hP hD hS k 0 (ces_at hlay) rfl (inb_vp hi) hd (fun H1 locs1 hP1 hD1 hS1 => ?_)
  rw [ces_putA hlay] at hP1 hD1
  exact k1 g p l e s m args below meth c cells slots Q hf hc hs hK hT K H1 locs1 ls hP1 hD1 hS1 hl
theorem Rt.alen {k n : Nat} (v : Int32) (hlay : lay[k]? = some (.inl n)) (hv : Int32.ofNat n = v) (hd : decode cc pc = .ok (.arraylength, 1)) (k1 : Rt X own cc nL R ri (pc + 1) L (.int v :: st) σ r σ') : Rt X own cc nL R ri pc L (.ref k :: st) σ r σ' := by
  intro g p l e s m args below meth c cells slots Q hf hc hs hK hT K H locs ls hP hD hS hl
  exact va_alen hf.1 hf.2.1 hK hP k 0 (ces_at hlay) rfl hv hd (k1 g p l e s m args below meth c cells slots Q hf hc hs hK hT K H locs ls hP hD hS hl)
theorem Rt.ialdX {i : Int32} (hi : inb i X.1 = true) (hd : decode cc pc = .ok (.iaload, 1)) (k1 : Rt X own cc nL R ri (pc + 1) L (.int (X.2 i.toNatClampNeg) :: st) σ r σ') : Rt X own cc nL R ri pc L (.int i :: .ref 30 :: st) σ r σ' := by
  intro g p l e s m args below meth c cells slots Q hf hc hs hK hT K H locs ls hP hD hS hl
  exact va_ti hf.1 hf.2.1 hT.2.2.1 hS (inb_vp hi) rfl hd (k1 g p l e s m args below meth c cells slots Q hf hc hs hK hT K H locs ls hP hD hS hl)
theorem Rt.alenX (hd : decode cc pc = .ok (.arraylength, 1)) (k1 : Rt X own cc nL R ri (pc + 1) L (.int (Int32.ofNat X.1) :: st) σ r σ') : Rt X own cc nL R ri pc L (.ref 30 :: st) σ r σ' := by
  intro g p l e s m args below meth c cells slots Q hf hc hs hK hT K H locs ls hP hD hS hl
  exact va_tlen hf.1 hf.2.1 hT.2.2.1 hS rfl hd (k1 g p l e s m args below meth c cells slots Q hf hc hs hK hT K H locs ls hP hD hS hl)
theorem Rt.ialdHL {i : Int32} (hi : inb i 4 = true) (hd : decode cc pc = .ok (.iaload, 1)) (k1 : Rt X own cc nL R ri (pc + 1) L (.int (heL i.toNatClampNeg) :: st) σ r σ') : Rt X own cc nL R ri pc L (.int i :: .ref 31 :: st) σ r σ' := by
  intro g p l e s m args below meth c cells slots Q hf hc hs hK hT K H locs ls hP hD hS hl
  exact va_ti hf.1 hf.2.1 hT.2.2.2.1 hS (inb_vp hi) rfl hd (k1 g p l e s m args below meth c cells slots Q hf hc hs hK hT K H locs ls hP hD hS hl)
theorem Rt.ialdHM {i : Int32} (hi : inb i 4 = true) (hd : decode cc pc = .ok (.iaload, 1)) (k1 : Rt X own cc nL R ri (pc + 1) L (.int (heM i.toNatClampNeg) :: st) σ r σ') : Rt X own cc nL R ri pc L (.int i :: .ref 32 :: st) σ r σ' := by
  intro g p l e s m args below meth c cells slots Q hf hc hs hK hT K H locs ls hP hD hS hl
  exact va_ti hf.1 hf.2.1 hT.2.2.2.2.1 hS (inb_vp hi) rfl hd (k1 g p l e s m args below meth c cells slots Q hf hc hs hK hT K H locs ls hP hD hS hl)
theorem Rt.alenHL (hd : decode cc pc = .ok (.arraylength, 1)) (k1 : Rt X own cc nL R ri (pc + 1) L (.int 4 :: st) σ r σ') : Rt X own cc nL R ri pc L (.ref 31 :: st) σ r σ' := by
  intro g p l e s m args below meth c cells slots Q hf hc hs hK hT K H locs ls hP hD hS hl
  exact va_tlen hf.1 hf.2.1 hT.2.2.2.1 hS rfl hd (k1 g p l e s m args below meth c cells slots Q hf hc hs hK hT K H locs ls hP hD hS hl)
theorem Rt.alenHM (hd : decode cc pc = .ok (.arraylength, 1)) (k1 : Rt X own cc nL R ri (pc + 1) L (.int 4 :: st) σ r σ') : Rt X own cc nL R ri pc L (.ref 32 :: st) σ r σ' := by
  intro g p l e s m args below meth c cells slots Q hf hc hs hK hT K H locs ls hP hD hS hl
  exact va_tlen hf.1 hf.2.1 hT.2.2.2.2.1 hS rfl hd (k1 g p l e s m args below meth c cells slots Q hf hc hs hK hT K H locs ls hP hD hS hl)
theorem Rt.getsHL {idx : Nat} (hm : Cond.fieldLink own idx "HigherMoreLeft" "HE_LEAST" "[I" ∈ gw) (hd : decode cc pc = .ok (.getstatic idx, 3)) (k1 : Rt X own cc nL R ri (pc + 3) L (.ref 31 :: st) σ r σ') : Rt X own cc nL R ri pc L st σ r σ' := by
  intro g p l e s m args below meth c cells slots Q hf hc hs hK hT K H locs ls hP hD hS hl
  exact va_gets hf.1 hf.2.1 hT.2.2.2.2.2.1 hS hf.2.2.2.1 (hf.2.2.2.2 _ hm) (fun _ h => h) hd (k1 g p l e s m args below meth c cells slots Q hf hc hs hK hT K H locs ls hP hD hS hl)
theorem Rt.getsHM {idx : Nat} (hm : Cond.fieldLink own idx "HigherMoreLeft" "HE_MOST" "[I" ∈ gw) (hd : decode cc pc = .ok (.getstatic idx, 3)) (k1 : Rt X own cc nL R ri (pc + 3) L (.ref 32 :: st) σ r σ') : Rt X own cc nL R ri pc L st σ r σ' := by
  intro g p l e s m args below meth c cells slots Q hf hc hs hK hT K H locs ls hP hD hS hl
  exact va_gets hf.1 hf.2.1 hT.2.2.2.2.2.2.1 hS hf.2.2.2.1 (hf.2.2.2.2 _ hm) (fun _ h => h) hd (k1 g p l e s m args below meth c cells slots Q hf hc hs hK hT K H locs ls hP hD hS hl)
theorem Rt.getsCS {idx : Nat} (hm : Cond.fieldLink own idx "java/lang/String" "COMPACT_STRINGS" "Z" ∈ gw) (hd : decode cc pc = .ok (.getstatic idx, 3)) (k1 : Rt X own cc nL R ri (pc + 3) L (.int 1 :: st) σ r σ') : Rt X own cc nL R ri pc L st σ r σ' := by
  intro g p l e s m args below meth c cells slots Q hf hc hs hK hT K H locs ls hP hD hS hl
  exact va_gets hf.1 hf.2.1 hT.2.2.2.2.2.2.2.1 hS hf.2.2.2.1 (hf.2.2.2.2 _ hm) (fun _ h => h) hd (k1 g p l e s m args below meth c cells slots Q hf hc hs hK hT K H locs ls hP hD hS hl)
theorem Rt.getsSF {idx : Nat} (hm : Cond.fieldLink own idx "jdk/internal/util/Preconditions" "SIOOBE_FORMATTER" "Ljava/util/function/BiFunction;" ∈ gw) (hd : decode cc pc = .ok (.getstatic idx, 3)) (k1 : Rt X own cc nL R ri (pc + 3) L (.float 0 :: st) σ r σ') : Rt X own cc nL R ri pc L st σ r σ' := by
  intro g p l e s m args below meth c cells slots Q hf hc hs hK hT K H locs ls hP hD hS hl
  exact va_gets hf.1 hf.2.1 hT.2.2.2.2.2.2.2.2.1 hS hf.2.2.2.1 (hf.2.2.2.2 _ hm) (fun _ h => h) hd (k1 g p l e s m args below meth c cells slots Q hf hc hs hK hT K H locs ls hP hD hS hl)
-- text constants: 40 + i is the i-th text, 50 + i its row of bytes
theorem Rt.ldcT {idx : Nat} (i : Nat) (hi : i < 6) (ho : own = "HigherMoreLeft$Text") (hx : idx = 52 + 2 * i) (hd : decode cc pc = .ok (.ldc idx, 2)) (k1 : Rt X own cc nL R ri (pc + 2) L (.ref (40 + i) :: st) σ r σ') : Rt X own cc nL R ri pc L st σ r σ' := by
  subst ho; subst hx
  intro g p l e s m args below meth c cells slots Q hf hc hs hK hT K H locs ls hP hD hS hl
  have hR := hT.2.2.2.2.2.2.2.2.2.2 i hi
  exact va_ldcS hf.1 hf.2.1 hf.2.2.2.1 hR hd (k1 g p l e s m args below meth c cells slots Q hf hc hs hK hT K H locs ls hP hD hS hl)
theorem Rt.getV {i idx : Nat} (hi : i < 6) (hm : Cond.fieldLink own idx "java/lang/String" "value" "[B" ∈ gw) (hd : decode cc pc = .ok (.getfield idx, 3)) (k1 : Rt X own cc nL R ri (pc + 3) L (.ref (50 + i) :: st) σ r σ') : Rt X own cc nL R ri pc L (.ref (40 + i) :: st) σ r σ' := by
  intro g p l e s m args below meth c cells slots Q hf hc hs hK hT K H locs ls hP hD hS hl
  exact vk_getf hf.1 hf.2.1 (hT.2.2.2.2.2.2.2.2.2.1.1 i hi).2.2.1 hS hf.2.2.2.1 (hf.2.2.2.2 _ hm) (fun _ h => h) hd (k1 g p l e s m args below meth c cells slots Q hf hc hs hK hT K H locs ls hP hD hS hl)
theorem Rt.getC {i idx : Nat} (hi : i < 6) (hm : Cond.fieldLink own idx "java/lang/String" "coder" "B" ∈ gw) (hd : decode cc pc = .ok (.getfield idx, 3)) (k1 : Rt X own cc nL R ri (pc + 3) L (.int 0 :: st) σ r σ') : Rt X own cc nL R ri pc L (.ref (40 + i) :: st) σ r σ' := by
  intro g p l e s m args below meth c cells slots Q hf hc hs hK hT K H locs ls hP hD hS hl
  exact vk_getf hf.1 hf.2.1 (hT.2.2.2.2.2.2.2.2.2.1.1 i hi).2.1 hS hf.2.2.2.1 (hf.2.2.2.2 _ hm) (fun _ h => h) hd (k1 g p l e s m args below meth c cells slots Q hf hc hs hK hT K H locs ls hP hD hS hl)
theorem Rt.baldT {i : Nat} {x : Int32} (hi : i < 6) (hx : inb x (sLen.getD i 0) = true) (hd : decode cc pc = .ok (.baload, 1)) (k1 : Rt X own cc nL R ri (pc + 1) L (.int ((sByt.getD i []).getD x.toNatClampNeg 0) :: st) σ r σ') : Rt X own cc nL R ri pc L (.int x :: .ref (50 + i) :: st) σ r σ' := by
  intro g p l e s m args below meth c cells slots Q hf hc hs hK hT K H locs ls hP hD hS hl
  exact va_tb hf.1 hf.2.1 (hT.2.2.2.2.2.2.2.2.2.1.1 i hi).2.2.2 hS (inb_vp hx) rfl hd (k1 g p l e s m args below meth c cells slots Q hf hc hs hK hT K H locs ls hP hD hS hl)
theorem Rt.alenT {i : Nat} (hi : i < 6) (hd : decode cc pc = .ok (.arraylength, 1)) (k1 : Rt X own cc nL R ri (pc + 1) L (.int (Int32.ofNat (sLen.getD i 0)) :: st) σ r σ') : Rt X own cc nL R ri pc L (.ref (50 + i) :: st) σ r σ' := by
  intro g p l e s m args below meth c cells slots Q hf hc hs hK hT K H locs ls hP hD hS hl
  exact va_tlen hf.1 hf.2.1 (hT.2.2.2.2.2.2.2.2.2.1.1 i hi).2.2.2 hS rfl hd (k1 g p l e s m args below meth c cells slots Q hf hc hs hK hT K H locs ls hP hD hS hl)
-- Math
theorem Rt.mmax {x y : Int32} {idx : Nat} (h1 : Cond.methodLink own idx Lib.Math.max.name ∈ gw) (h2 : Cond.static Lib.Math.max.name ∈ gw) (h3 : Cond.initialized "java/lang/Math" ∈ gw) (h4 : Cond.code Lib.Math.max.name Lib.Math.max.code 2 (some .int) ∈ gw) (hfr : 1 ≤ R.frames) (hlo : (st.map fun v => v.category).sum + 13 ≤ R.locals) (hd : decode cc pc = .ok (.invokestatic idx, 3)) (k1 : Rt X own cc nL R ri (pc + 3) L (.int (if x < y then y else x) :: st) σ r σ') : Rt X own cc nL R ri pc L (.int y :: .int x :: st) σ r σ' := by
  intro g p l e s m args below meth c cells slots Q hf hc hs hK hT K H locs ls hP hD hS hl
  exact va_mmax hf.1 hf.2.1 (hf.2.2.1.trans hl.1.symm) hf.2.2.2.1 (hf.2.2.2.2 _ h1) (hf.2.2.2.2 _ h2) (hf.2.2.2.2 _ h3) (hf.2.2.2.2 _ h4) hfr (by rw [cat_sum hT.cat]; exact hlo) hc hs hd (k1 g p l e s m args below meth c cells slots Q hf hc hs hK hT K H locs ls hP hD hS hl)
theorem Rt.mmin {x y : Int32} {idx : Nat} (h1 : Cond.methodLink own idx Lib.Math.min.name ∈ gw) (h2 : Cond.static Lib.Math.min.name ∈ gw) (h3 : Cond.initialized "java/lang/Math" ∈ gw) (h4 : Cond.code Lib.Math.min.name Lib.Math.min.code 2 (some .int) ∈ gw) (hfr : 1 ≤ R.frames) (hlo : (st.map fun v => v.category).sum + 13 ≤ R.locals) (hd : decode cc pc = .ok (.invokestatic idx, 3)) (k1 : Rt X own cc nL R ri (pc + 3) L (.int (if y < x then y else x) :: st) σ r σ') : Rt X own cc nL R ri pc L (.int y :: .int x :: st) σ r σ' := by
  intro g p l e s m args below meth c cells slots Q hf hc hs hK hT K H locs ls hP hD hS hl
  exact va_mmin hf.1 hf.2.1 (hf.2.2.1.trans hl.1.symm) hf.2.2.2.1 (hf.2.2.2.2 _ h1) (hf.2.2.2.2 _ h2) (hf.2.2.2.2 _ h3) (hf.2.2.2.2 _ h4) hfr (by rw [cat_sum hT.cat]; exact hlo) hc hs hd (k1 g p l e s m args below meth c cells slots Q hf hc hs hK hT K H locs ls hP hD hS hl)
theorem Rt.mabs {x : Int32} {idx : Nat} (h1 : Cond.methodLink own idx Lib.Math.abs.name ∈ gw) (h2 : Cond.static Lib.Math.abs.name ∈ gw) (h3 : Cond.initialized "java/lang/Math" ∈ gw) (h4 : Cond.code Lib.Math.abs.name Lib.Math.abs.code 1 (some .int) ∈ gw) (hfr : 1 ≤ R.frames) (hlo : (st.map fun v => v.category).sum + 13 ≤ R.locals) (hd : decode cc pc = .ok (.invokestatic idx, 3)) (k1 : Rt X own cc nL R ri (pc + 3) L (.int (if 0 ≤ x then x else 0 - x) :: st) σ r σ') : Rt X own cc nL R ri pc L (.int x :: st) σ r σ' := by
  intro g p l e s m args below meth c cells slots Q hf hc hs hK hT K H locs ls hP hD hS hl
  exact va_mabs hf.1 hf.2.1 (hf.2.2.1.trans hl.1.symm) hf.2.2.2.1 (hf.2.2.2.2 _ h1) (hf.2.2.2.2 _ h2) (hf.2.2.2.2 _ h3) (hf.2.2.2.2 _ h4) hfr (by rw [cat_sum hT.cat]; exact hlo) hc hs hd (k1 g p l e s m args below meth c cells slots Q hf hc hs hK hT K H locs ls hP hD hS hl)
-- 24 places of one row into another
theorem Rt.copy24 {idx a b : Nat} (ha : lay[a]? = some (.inl 24)) (hb : lay[b]? = some (.inl 24)) (h1 : Cond.methodLink own idx arraycopyName ∈ gw) (h2 : Cond.native arraycopyName ∈ gw) (h3 : Cond.static arraycopyName ∈ gw) (h4 : Cond.initialized "java/lang/System" ∈ gw) (hfr : 1 ≤ R.frames) (hlo : (st.map fun v => v.category).sum + (nativeFrameWords "java/lang/System" "arraycopy" 5 + 11) ≤ R.locals) (hd : decode cc pc = .ok (.invokestatic idx, 3)) (k1 : Rt X own cc nL R ri (pc + 3) L st (setS σ b (va_cpy (σ a) (σ b) 0 0 24)) r σ') : Rt X own cc nL R ri pc L (.int 24 :: .int 0 :: .ref b :: .int 0 :: .ref a :: st) σ r σ' := by
  intro g p l e s m args below meth c cells slots Q hf hc hs hK hT K H locs ls hP hD hS hl
  refine va_copyi (sp := 0) (dp := 0) (n := 24) (ty := .int) hf.1 hf.2.1 (hf.2.2.1.trans hl.1.symm) hf.2.2.2.1 (hf.2.2.2.2 _ h1) (hf.2.2.2.2 _ h2) (hf.2.2.2.2 _ h3) (hf.2.2.2.2 _ h4) hK hP hD hS a b 0 0 (ces_at ha) (ces_at hb) rfl rfl rfl (by decide) (by decide) (by decide) (by decide) (by decide) (fun _ _ => rfl) hfr (by rw [cat_sum hT.cat]; exact hlo) hd (fun H1 locs1 hP1 hD1 hS1 => ?_)
  rw [ces_setA hb] at hP1 hD1
  exact k1 g p l e s m args below meth c cells slots Q hf hc hs hK hT K H1 locs1 ls hP1 hD1 hS1 hl
end RtHeap
