theorem mlL_X3 : Cond.methodLink RL 9 yX3_init ∈ gw := gw_at 79 (by decide +kernel) rfl
theorem ckL_X3 : Cond.classLink RL 7 RX3 ∈ gw := gw_at 77 (by decide +kernel) rfl
theorem isX3 : Cond.instantiable RX3 11 ∈ gw := gw_at 78 (by decide +kernel) rfl
theorem mlL_X4 : Cond.methodLink RL 12 yX4_init ∈ gw := gw_at 676 (by decide +kernel) rfl
theorem ckL_X4 : Cond.classLink RL 10 RX4 ∈ gw := gw_at 674 (by decide +kernel) rfl
theorem isX4 : Cond.instantiable RX4 26 ∈ gw := gw_at 675 (by decide +kernel) rfl
/-! THE CLAIM OUT OF ONE WALK OF THE LAW'S BODY. Your part is whole_start (and what it stands on); all else here is the same for every law, but numbers. -/
def R_law : String := "HigherMoreLeftLaw"
def lw_P (b : Addr) (xs : List Int32) (args : Array Value) (s : State) : Prop := args = #[.ref b] ∧ s.IntsAt b xs ∧ xs.length ≤ 2560 ∧ (Jvm.Cond.and given_1 narrow_1).before args s = true
def lw_Q (_ : Array Value) (s : State) (o : Outcome) (t : State) : Prop := o = .returned (some (.int 1)) ∧ Framed s o t [] 30 772
def lw_Z (below : List Frame) (a : Array Value) (s : State) : State → Prop := fun t => ∃ o, t.status = .running ∧ Ended t below o ∧ lw_Q a s o t
/-- the law's own end, with 1 on the stack, nothing written that was there before, its room as the claim has it -/
theorem lw_ret {p : Program} {l : Launch} {e : Env} {s : State} {m : MethodId} {below : List Frame} {meth : Method} {c : Code} {b : Nat} (hx : p.tables.exec = Jvm.exec) (hb : c.code = code) (hr : meth.sig.returnType = ret) (hlocks : meth.locks = false) {pc : Nat} {H : Heap} {ls : Array Slot} (hdg : decode code pc = .ok (.ireturn, 1)) : W p l e room_1 s m #[Value.ref b] below meth c H [] 30 772 (lw_Z below #[Value.ref b] s) (F0 m pc ls [.int 1]) := by
  intro T hT X
  obtain ⟨fs, hret, hrun, hended, hW, hframe⟩ := X.leave (v := some (.int 1)) (hlocks := hlocks) (fun h => by rw [hr] at h; cases h)
  have hmeth' : T.vm.method? m = some meth := X.method'
  refine ⟨T.setFrames fs, ?_, .returned (some (.int 1)), hrun, hended, rfl, ⟨_, rfl⟩, hW, hframe⟩
  jvm_step X.here [X.here.top, hx, hb, hdg, hmeth', hr, ret, narrow_b1]
  (try refine ⟨rfl, ?_⟩); (try refine ⟨rfl, ?_⟩)
  first | (intro acts; rw [hret _ acts rfl rfl rfl]) | rw [hret _ _ rfl rfl rfl]
  exact Steps.refl _
/-- what holds at the law's entry: the machine, the code, the tables' words (any of lw_tbl by 'hts w (by decide +kernel)'), the script of L ints xs at the cell b, what the Statement gives of the start (any of its parts by flat_of_before) -/
def lw_At (p : Program) (s : State) (m : MethodId) (meth : Method) (c : Code) (b L : Nat) (xs : Nat → Int32) : Prop :=
  p.tables.exec = Jvm.exec ∧ c.code = code ∧ meth.sig.returnType = ret ∧ c.maxLocals = 4 ∧ s.vm.findClass R_law = some m.cls ∧ (∀ w ∈ lw_tbl, w.before #[Value.ref b] s = true) ∧ va_X b L xs s s.heap ∧ b < s.heap.size ∧ meth.locks = false ∧ (Jvm.Cond.and given_1 narrow_1).before #[Value.ref b] s = true

def sg0 : Sto := fun k j => if k = 1 ∨ k = 3 ∨ k = 5 ∨ k = 7 then (if j = 6 then 1 else if j = 7 then 3 else 0) else if k = 20 then upd (upd zf 1 1) 2 3 j else 0
theorem nest_of {w : Cond} (hn : isNest w = true) {A : Array Value} {U : State} (h : w.before A U = true) : va_Nw w U := by
  cases w <;> first | exact va_Nw.of rfl h | cases hn
def adS (as : List Nat) (b t1 t2 : Nat) (adK adV : Nat → Nat) : Nat → Nat := fun k => if k < 30 then as.getD k 0 else if k = 30 then b else if k = 31 then t1 else if k = 32 then t2 else if k < 50 then adK (k - 40) else adV (k - 50)
theorem m_stat {args : Array Value} {s : State} (hgv : (Jvm.Cond.and given_1 narrow_1).before args s = true) : ∀ c ∈ flatC (Jvm.Cond.and given_1 narrow_1), c.before args s = true := flat_of_before _ hgv
def tmT (i : Nat) : Term := .string "HigherMoreLeft$Text" (52 + 2 * i)
def FL : List Cond := flatC (Jvm.Cond.and given_1 narrow_1)
theorem fl_ex : ∀ i, i < 6 → Cond.exactly (tmT i) "java/lang/String" ∈ FL := by decide +kernel
theorem fl_co : ∀ i, i < 6 → Cond.eq (.field (tmT i) "java/lang/String" "coder" "B") (.int 0) ∈ FL := by decide +kernel
theorem fl_ar : ∀ i, i < 6 → Cond.arrayOf (.field (tmT i) "java/lang/String" "value" "[B") .byte ∈ FL := by decide +kernel
theorem fl_le : ∀ i, i < 6 → Cond.eq (.length (.field (tmT i) "java/lang/String" "value" "[B")) (.int (Int32.ofNat (sLen.getD i 0))) ∈ FL := by decide +kernel
theorem fl_el : ∀ i, i < 6 → ∀ j, j < sLen.getD i 0 → Cond.eq (.elem (.field (tmT i) "java/lang/String" "value" "[B") (.int (Int32.ofNat j))) (.int ((sByt.getD i []).getD j 0)) ∈ FL := by decide +kernel
theorem fl_ne : ∀ i, i < 6 → ∀ j, j < 6 → i ≠ j → Cond.not (Cond.eq (tmT i) (tmT j)) ∈ FL ∨ Cond.not (Cond.eq (tmT j) (tmT i)) ∈ FL := by decide +kernel
theorem fl_sr : ∀ i, i < 6 → Cond.stringRef "HigherMoreLeft$Text" (52 + 2 * i) (sTx i) ∈ lw_tbl := by decide +kernel
theorem fl_hl : ∀ j, j < 4 → Cond.eq (.elem (.static "HigherMoreLeft" "HE_LEAST" "[I") (.int (Int32.ofNat j))) (.int (heL j)) ∈ FL := by decide +kernel
theorem fl_hm : ∀ j, j < 4 → Cond.eq (.elem (.static "HigherMoreLeft" "HE_MOST" "[I") (.int (Int32.ofNat j))) (.int (heM j)) ∈ FL := by decide +kernel
theorem fl_ls1 : Cond.laysStatic "HigherMoreLeft" "HE_LEAST" "[I" ∈ lw_tbl := by decide +kernel
theorem fl_ls2 : Cond.laysStatic "HigherMoreLeft" "HE_MOST" "[I" ∈ lw_tbl := by decide +kernel
theorem fl_ls3 : Cond.laysStatic "java/lang/String" "COMPACT_STRINGS" "Z" ∈ lw_tbl := by decide +kernel
theorem fl_ls4 : Cond.laysStatic "jdk/internal/util/Preconditions" "SIOOBE_FORMATTER" "Ljava/util/function/BiFunction;" ∈ lw_tbl := by decide +kernel
theorem fl_in1 : Cond.initialized "HigherMoreLeft" ∈ lw_tbl := by decide +kernel
theorem fl_in3 : Cond.initialized "java/lang/String" ∈ lw_tbl := by decide +kernel
theorem fl_in4 : Cond.initialized "jdk/internal/util/Preconditions" ∈ lw_tbl := by decide +kernel
set_option maxHeartbeats 4000000 in
set_option maxRecDepth 100000 in
/-- what never changes, at the law's entry -/
theorem st_start {args : Array Value} {s : State} {b Ln : Nat} {xs : Nat → Int32} (hts : ∀ w ∈ lw_tbl, w.before args s = true) (hgv : (Jvm.Cond.and given_1 narrow_1).before args s = true) (hL : Ln ≤ 2560) (hX : va_X b Ln xs s s.heap) (hbl : b < s.heap.size) :
    ∃ (t1 t2 : Nat) (adK adV : Nat → Nat) (fm : Value), ∀ (D : va_G) (as : List Nat) (cy : ClassId), Stt (Ln, xs) (D, adS as b t1 t2 adK adV, cy, (fun q : Nat => s.heap.size ≤ q), fm) s s.heap := by
  have hs : ∀ c ∈ FL, c.before args s = true := m_stat hgv
  have hnA : ∀ a : Nat, a < s.heap.size → ¬ (fun q : Nat => s.heap.size ≤ q) a := fun a h => Nat.not_le.mpr h
  obtain ⟨t1, e1, hT1⟩ := va_Tof (A := fun q : Nat => s.heap.size ≤ q) (N := 4) (f := fun j => .int (heL j)) (tm := .static "HigherMoreLeft" "HE_LEAST" "[I") (ty := .int) (by decide) (hs _ (by decide +kernel)) (va_eqt (hs (Cond.eq (.length (.static "HigherMoreLeft" "HE_LEAST" "[I")) (.int 4)) (by decide +kernel))) (fun j hj => va_eqt (hs _ (fl_hl j hj))) hnA
  obtain ⟨t2, e2, hT2⟩ := va_Tof (A := fun q : Nat => s.heap.size ≤ q) (N := 4) (f := fun j => .int (heM j)) (tm := .static "HigherMoreLeft" "HE_MOST" "[I") (ty := .int) (by decide) (hs _ (by decide +kernel)) (va_eqt (hs (Cond.eq (.length (.static "HigherMoreLeft" "HE_MOST" "[I")) (.int 4)) (by decide +kernel))) (fun j hj => va_eqt (hs _ (fl_hm j hj))) hnA
  have hZ1 := va_Zof (A := fun q : Nat => s.heap.size ≤ q) (hts _ fl_ls1) (hts _ fl_in1) e1 hnA
  have hZ2 := va_Zof (A := fun q : Nat => s.heap.size ≤ q) (hts _ fl_ls2) (hts _ fl_in1) e2 hnA
  have hZ3 := va_Zof (A := fun q : Nat => s.heap.size ≤ q) (hts _ fl_ls3) (hts _ fl_in3) (va_eqt (hs (Cond.eq (.static "java/lang/String" "COMPACT_STRINGS" "Z") (.int 1)) (by decide +kernel))) hnA
  have hZ4 := va_Zqof (A := fun q : Nat => s.heap.size ≤ q) (hts _ fl_ls4) (hts _ fl_in4) (hs _ (by decide +kernel)) hnA
  obtain ⟨adK, adV, hSS, hev⟩ := vk_Sof (N := 6) (tm := tmT) (len := sLen) (byt := sByt) (A := fun q : Nat => s.heap.size ≤ q) (by decide) (fun i hi => hs _ (fl_ex i hi)) (fun i hi => hs _ (fl_co i hi)) (fun i hi => hs _ (fl_ar i hi)) (fun i hi => hs _ (fl_le i hi)) (fun i hi j hj => hs _ (fl_el i hi j hj)) (fun i j hi hj hne => (fl_ne i hi j hj hne).imp (hs _) (hs _)) hnA
  obtain ⟨scr, x1, x2, x3, x4, x5⟩ := hX
  have hT0 : va_T .int b Ln (fun j => .int (xs j)) (fun q : Nat => s.heap.size ≤ q) s s.heap := ⟨scr, x1, x2, x3, by omega, by rw [x4], x5, hnA b hbl⟩
  obtain ⟨fm, hfm, hZ4⟩ : ∃ fm : Value, (fm = .null ∨ ∃ t, fm = .ref t) ∧ va_Z "jdk/internal/util/Preconditions" "SIOOBE_FORMATTER" "Ljava/util/function/BiFunction;" fm (fun q : Nat => s.heap.size ≤ q) s s.heap := by
    rcases hZ4 with h | ⟨t, h⟩
    · exact ⟨.null, Or.inl rfl, h⟩
    · exact ⟨.ref t, Or.inr ⟨t, rfl⟩, h⟩
  refine ⟨t1, t2, adK, adV, fm, fun D as cy => ⟨hfm, fun w hw hn => nest_of hn (hts w hw), hT0, hT1, hT2, hZ1, hZ2, hZ3, hZ4, ?_, ?_⟩⟩
  · refine ⟨fun i hi => ?_, fun i j hi hj e => ?_⟩
    · have h := hSS.1 i hi
      have k1 : adS as b t1 t2 adK adV (40 + i) = adK i := by unfold adS; rw [if_neg (by omega), if_neg (by omega), if_neg (by omega), if_neg (by omega), if_pos (by omega)]; congr 1; omega
      have k2 : adS as b t1 t2 adK adV (50 + i) = adV i := by unfold adS; rw [if_neg (by omega), if_neg (by omega), if_neg (by omega), if_neg (by omega), if_neg (by omega)]; congr 1; omega
      simp only [k1, k2]
      exact h
    · have k1 : ∀ i, i < 6 → adS as b t1 t2 adK adV (40 + i) = adK i := fun i hi => by unfold adS; rw [if_neg (by omega), if_neg (by omega), if_neg (by omega), if_neg (by omega), if_pos (by omega)]; congr 1; omega
      simp only [k1 i hi, k1 j hj] at e
      exact hSS.2 i j hi hj e
  · intro i hi
    have k1 : adS as b t1 t2 adK adV (40 + i) = adK i := by unfold adS; rw [if_neg (by omega), if_neg (by omega), if_neg (by omega), if_neg (by omega), if_pos (by omega)]; congr 1; omega
    simp only [k1]
    exact vk_R.of (hts _ (fl_sr i hi)) (hev i hi)
theorem sg0_z : ∀ k, k = 2 ∨ k = 4 ∨ k = 6 ∨ k = 8 ∨ k = 10 ∨ (12 ≤ k ∧ k ≤ 16) ∨ k = 18 ∨ k = 19 ∨ (21 ≤ k ∧ k ≤ 29) → sg0 k = zf := by
  intro k hk
  funext j
  unfold sg0
  rw [if_neg (by omega), if_neg (by omega)]
theorem sg0_he : sg0 20 = upd (upd zf 1 1) 2 3 := by
  funext j
  unfold sg0
  rw [if_neg (by omega), if_pos rfl]
set_option maxHeartbeats 4000000 in
set_option maxRecDepth 100000 in
theorem ces_start (D : va_G) (cy : ClassId) (A : Nat → Prop) (fm : Value) (a0 a1 a2 a3 a4 a5 a6 a7 a8 a9 a10 a11 a12 a13 a14 a15 a16 a17 a18 a19 a20 a21 a22 a23 a24 a25 a26 a27 a28 a29 b t1 t2 : Nat) (adK adV : Nat → Nat) : ces (D, adS [a0, a1, a2, a3, a4, a5, a6, a7, a8, a9, a10, a11, a12, a13, a14, a15, a16, a17, a18, a19, a20, a21, a22, a23, a24, a25, a26, a27, a28, a29] b t1 t2 adK adV, cy, A, fm) sg0 = [(a0, .inr (3, [.ref a1, .ref a3, .ref a5, .ref a7, .ref a9, .ref a11, .ref a14, .ref a15, .ref a16, .int 0, .int 0])), (a1, .inr (0, [.ref a2, .int 0, .int 0, .int 0, .int 0, .int 0, .int 1, .int 3, .int 0])), (a2, .inl (cy, 24, .inl zf)), (a3, .inr (0, [.ref a4, .int 0, .int 0, .int 0, .int 0, .int 0, .int 1, .int 3, .int 0])), (a4, .inl (cy, 24, .inl zf)), (a5, .inr (0, [.ref a6, .int 0, .int 0, .int 0, .int 0, .int 0, .int 1, .int 3, .int 0])), (a6, .inl (cy, 24, .inl zf)), (a7, .inr (0, [.ref a8, .int 0, .int 0, .int 0, .int 0, .int 0, .int 1, .int 3, .int 0])), (a8, .inl (cy, 24, .inl zf)), (a9, .inr (2, [.ref a10, .int 0])), (a10, .inl (cy, 80, .inl zf)), (a11, .inr (1, [.ref a12, .ref a13, .int 0])), (a12, .inl (cy, 8, .inl zf)), (a13, .inl (cy, 8, .inl zf)), (a14, .inl (cy, 20, .inl zf)), (a15, .inl (cy, 9, .inl zf)), (a16, .inl (cy, 7, .inl zf)), (a17, .inr (4, [.ref a18, .ref a19, .ref a20, .int 0, .int 0, .int 0, .int 0, .ref a21, .ref a22, .ref a23, .ref a24, .int 0, .int 0, .int 0, .ref a25, .int 0, .int 0, .int 0, .int 0, .int 0, .ref a26, .ref a27, .ref a28, .int 0, .ref a29, .int 0])), (a18, .inl (cy, 7, .inl zf)), (a19, .inl (cy, 24, .inl zf)), (a20, .inl (cy, 4, .inl (upd (upd zf 1 1) 2 3))), (a21, .inl (cy, 80, .inl zf)), (a22, .inl (cy, 40, .inl zf)), (a23, .inl (cy, 40, .inl zf)), (a24, .inl (cy, 120, .inl zf)), (a25, .inl (cy, 105, .inl zf)), (a26, .inl (cy, 8, .inl zf)), (a27, .inl (cy, 8, .inl zf)), (a28, .inl (cy, 10, .inl zf)), (a29, .inl (cy, 20, .inl zf))] := by
  have z : ∀ k, k = 2 ∨ k = 4 ∨ k = 6 ∨ k = 8 ∨ k = 10 ∨ (12 ≤ k ∧ k ≤ 16) ∨ k = 18 ∨ k = 19 ∨ (21 ≤ k ∧ k ≤ 29) → sg0 k = zf := sg0_z
  unfold ces lay bkE
  simp only [List.mapIdx_cons, List.mapIdx_nil, ceE, Nat.reduceAdd, Nat.zero_add]
  rw [z 2 (by decide), z 4 (by decide), z 6 (by decide), z 8 (by decide), z 10 (by decide), z 12 (by decide), z 13 (by decide), z 14 (by decide), z 15 (by decide), z 16 (by decide), z 18 (by decide), z 19 (by decide), z 21 (by decide), z 22 (by decide), z 23 (by decide), z 24 (by decide), z 25 (by decide), z 26 (by decide), z 27 (by decide), z 28 (by decide), z 29 (by decide), sg0_he]
  rfl
