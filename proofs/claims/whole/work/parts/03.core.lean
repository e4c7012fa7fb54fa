/-! CORE: an abstract machine over a store of ints: the reference fields never change, so the world is a fixed layout of 30 cells and a store σ : cell → place → Int32. 'Rt' says: from this place of a method's code the machine comes to a return of it, with this answer and this store. -/
abbrev Sto : Type := Nat → Nat → Int32
def upS (σ : Sto) (k j : Nat) (x : Int32) : Sto := fun a => if a = k then upd (σ k) j x else σ a
abbrev LE : Type := Nat ⊕ (Nat × List (Option Nat))
def bkE (k : Nat) : LE := .inr (0, [some (k + 1), none, none, none, none, none, none, none, none])
def lay : List LE := [
  .inr (3, [some 1, some 3, some 5, some 7, some 9, some 11, some 14, some 15, some 16, none, none]),
  bkE 1, .inl 24, bkE 3, .inl 24, bkE 5, .inl 24, bkE 7, .inl 24,
  .inr (2, [some 10, none]), .inl 80,
  .inr (1, [some 12, some 13, none]), .inl 8, .inl 8,
  .inl 20, .inl 9, .inl 7,
  .inr (4, [some 18, some 19, some 20, none, none, none, none, some 21, some 22, some 23, some 24, none, none, none, some 25, none, none, none, none, none, some 26, some 27, some 28, none, some 29, none]),
  .inl 7, .inl 24, .inl 4, .inl 80, .inl 40, .inl 40, .inl 120, .inl 105, .inl 8, .inl 8, .inl 10, .inl 20]
abbrev Gl : Type := va_G × (Nat → Nat) × ClassId × (Nat → Prop) × Value
def cv (g : Gl) (v : Value) : Value := match v with
  | .ref k => .ref (g.2.1 k)
  | .float _ => g.2.2.2.2
  | v => v
def cvl (g : Gl) (q : Nat × Value) : Nat × Value := (q.1, cv g q.2)
def fdV (g : Gl) (σ : Sto) (k j : Nat) (f : Option Nat) : Value := match f with
  | some r => .ref (g.2.1 r)
  | none => .int (σ k j)
def ceE (g : Gl) (σ : Sto) (k : Nat) (e : LE) : va_E := match e with
  | .inl n => .inl (g.2.2.1, n, .inl (σ k))
  | .inr o => .inr (o.1, o.2.mapIdx (fdV g σ k))
def ces (g : Gl) (σ : Sto) : va_W := lay.mapIdx (fun k e => (g.2.1 k, ceE g σ k e))
theorem ces_at {g : Gl} {σ : Sto} {k : Nat} {e : LE} (h : lay[k]? = some e) : (ces g σ)[k]? = some (g.2.1 k, ceE g σ k e) := by
  unfold ces
  rw [List.getElem?_mapIdx, h]
  rfl
theorem ceE_congr {g : Gl} {σ τ : Sto} {k : Nat} (h : σ k = τ k) (e : LE) : ceE g σ k e = ceE g τ k e := by
  have hf : fdV g σ k = fdV g τ k := by
    funext j f
    cases f with
    | none => simp only [fdV, h]
    | some r => rfl
  cases e with
  | inl n => simp only [ceE, h]
  | inr o => simp only [ceE, hf]
theorem upS_ne {σ : Sto} {k j a : Nat} {x : Int32} (h : a ≠ k) : upS σ k j x a = σ a := if_neg h
theorem upS_eq {σ : Sto} {k j : Nat} {x : Int32} : upS σ k j x k = upd (σ k) j x := if_pos rfl
theorem ces_put {g : Gl} {σ : Sto} {k ci j : Nat} {fl : List (Option Nat)} {x : Int32} (h : lay[k]? = some (.inr (ci, fl))) (hj : fl[j]? = some none) :
    (ces g σ).set k (g.2.1 k, .inr (ci, (fl.mapIdx (fdV g σ k)).set j (.int x))) = ces g (upS σ k j x) := by
  have hlt : k < (ces g σ).length := by
    have := ces_at (g := g) (σ := σ) h
    exact (List.getElem?_eq_some_iff.mp this).1
  refine List.ext_getElem? fun i => ?_
  by_cases hi : i = k
  · subst hi
    rw [List.getElem?_set_self hlt, ces_at h]
    have e1 : (fl.mapIdx (fdV g σ i)).set j (.int x) = fl.mapIdx (fdV g (upS σ i j x) i) := by
      refine List.ext_getElem? fun b => ?_
      by_cases hb : b = j
      · subst hb
        have hl : b < (fl.mapIdx (fdV g σ i)).length := by
          rw [List.length_mapIdx]
          exact (List.getElem?_eq_some_iff.mp hj).1
        rw [List.getElem?_set_self hl, List.getElem?_mapIdx, hj]
        simp [fdV, upS_eq, upd]
      · rw [List.getElem?_set_ne (Ne.symm hb), List.getElem?_mapIdx, List.getElem?_mapIdx]
        cases fl[b]? with
        | none => rfl
        | some f =>
          cases f with
          | none => simp [fdV, upS_eq, upd, hb]
          | some r => rfl
    simp only [ceE, e1]
  · rw [List.getElem?_set_ne (Ne.symm hi)]
    unfold ces
    rw [List.getElem?_mapIdx, List.getElem?_mapIdx]
    cases lay[i]? with
    | none => rfl
    | some e =>
      show some (g.2.1 i, ceE g σ i e) = some (g.2.1 i, ceE g (upS σ k j x) i e)
      rw [ceE_congr (upS_ne hi).symm e]
def setS (σ : Sto) (k : Nat) (f : Nat → Int32) : Sto := fun a => if a = k then f else σ a
theorem setS_ne {σ : Sto} {k a : Nat} {f : Nat → Int32} (h : a ≠ k) : setS σ k f a = σ a := if_neg h
theorem setS_eq {σ : Sto} {k : Nat} {f : Nat → Int32} : setS σ k f k = f := if_pos rfl
theorem ces_setA {g : Gl} {σ : Sto} {k n : Nat} {f : Nat → Int32} (h : lay[k]? = some (.inl n)) :
    (ces g σ).set k (g.2.1 k, .inl (g.2.2.1, n, .inl f)) = ces g (setS σ k f) := by
  have hlt : k < (ces g σ).length := by
    have := ces_at (g := g) (σ := σ) h
    exact (List.getElem?_eq_some_iff.mp this).1
  refine List.ext_getElem? fun i => ?_
  by_cases hi : i = k
  · subst hi
    rw [List.getElem?_set_self hlt, ces_at h]
    simp only [ceE, setS_eq]
  · rw [List.getElem?_set_ne (Ne.symm hi)]
    unfold ces
    rw [List.getElem?_mapIdx, List.getElem?_mapIdx]
    cases lay[i]? with
    | none => rfl
    | some e =>
      show some (g.2.1 i, ceE g σ i e) = some (g.2.1 i, ceE g (setS σ k f) i e)
      rw [ceE_congr (setS_ne hi).symm e]
theorem ces_putA {g : Gl} {σ : Sto} {k n j : Nat} {x : Int32} (h : lay[k]? = some (.inl n)) :
    (ces g σ).set k (g.2.1 k, .inl (g.2.2.1, n, .inl (upd (σ k) j x))) = ces g (upS σ k j x) := ces_setA h
-- the tables' words
def gw : List Cond := lw_tbl.filter goodWord
theorem gw_mem {w : Cond} (h : w ∈ lw_tbl) (hg : goodWord w = true) : w ∈ gw := List.mem_filter.mpr ⟨h, hg⟩
theorem gw_at (i : Nat) {w : Cond} (h : lw_tbl[i]? = some w) (hg : goodWord w = true) : w ∈ gw := gw_mem (List.mem_of_getElem? h) hg
theorem gw_in {w : Cond} (h : w ∈ gw) : w ∈ lw_tbl := (List.mem_filter.mp h).1
theorem gw_good {ws : List Cond} (h : ∀ w ∈ ws, w ∈ gw) : GoodIn gw ws := fun w hw => ⟨h w hw, good_of_word (List.mem_filter.mp (h w hw)).2⟩
def isNest : Cond → Bool
  | .fieldLinkNest .. => true
  | .methodLinkNest .. => true
  | _ => false
theorem nest_warm {w : Cond} (hn : isNest w = true) {s U : State} (hW : s.WarmedH U.vm) (h : va_Nw w s) : va_Nw w U := by
  cases w <;> first | exact va_Nw.warmF hW h | exact va_Nw.warmM hW h | cases hn
theorem nest_same {w : Cond} (hn : isNest w = true) {u U : State} (hv : u.vm = U.vm) (h : va_Nw w u) : va_Nw w U := by
  cases w <;> first | exact va_Nw.same rfl hv h | cases hn
theorem nest_use {w : Cond} (hn : isNest w = true) {A : Array Value} {U : State} (h : va_Nw w U) : w.before A U = true := by
  cases w <;> first | exact va_Nw.use rfl h | cases hn
-- the text constants and the class's own tables
def sLen : List Nat := [4, 4, 2, 3, 0, 6]
def sByt : List (List Int32) := [[107, 100, 100, 59], [100, 100, 100, 59], [100, 59], [100, 100, 59], [], [105, 99, 104, 102, 115, 110]]
def sTx (i : Nat) : String := ["kdd;", "ddd;", "d;", "dd;", "", "ichfsn"].getD i ""
def heL (j : Nat) : Int32 := [0, 1, 2, 0].getD j 0
def heM (j : Nat) : Int32 := [1, 3, 5, 5].getD j 0
abbrev Scr : Type := Nat × (Nat → Int32)
def Stt (X : Scr) (g : Gl) (U : State) (H : Heap) : Prop :=
  (g.2.2.2.2 = .null ∨ ∃ t, g.2.2.2.2 = .ref t) ∧ (∀ w ∈ lw_tbl, isNest w = true → va_Nw w U) ∧
  va_T .int (g.2.1 30) X.1 (fun j => .int (X.2 j)) g.2.2.2.1 U H ∧
  va_T .int (g.2.1 31) 4 (fun j => .int (heL j)) g.2.2.2.1 U H ∧ va_T .int (g.2.1 32) 4 (fun j => .int (heM j)) g.2.2.2.1 U H ∧
  va_Z "HigherMoreLeft" "HE_LEAST" "[I" (.ref (g.2.1 31)) g.2.2.2.1 U H ∧ va_Z "HigherMoreLeft" "HE_MOST" "[I" (.ref (g.2.1 32)) g.2.2.2.1 U H ∧
  va_Z "java/lang/String" "COMPACT_STRINGS" "Z" (.int 1) g.2.2.2.1 U H ∧ va_Z "jdk/internal/util/Preconditions" "SIOOBE_FORMATTER" "Ljava/util/function/BiFunction;" g.2.2.2.2 g.2.2.2.1 U H ∧
  vk_S 6 sLen sByt (fun i => g.2.1 (40 + i)) (fun i => g.2.1 (50 + i)) g.2.2.2.1 U H ∧ ∀ i, i < 6 → vk_R "HigherMoreLeft$Text" (52 + 2 * i) (sTx i) (g.2.1 (40 + i)) U
theorem Stt.kept {X : Scr} {g : Gl} {U : State} {H H1 : Heap} (h : Stt X g U H) (hq : ∀ a : Nat, a < H.size → ¬ g.2.2.2.1 a → H1[a]? = H[a]?) : Stt X g U H1 := by
  obtain ⟨h0, h1, h2, h3, h4, h5, h6, h7, h8, h9, h10⟩ := h
  exact ⟨h0, h1, h2.kept hq, h3.kept hq, h4.kept hq, h5.kept hq, h6.kept hq, h7.kept hq, h8.kept hq, h9.kept hq, h10⟩
theorem Stt.warm {X : Scr} {g : Gl} {s U : State} {H : Heap} (h : Stt X g s H) (hW : s.WarmedH U.vm) : Stt X g U H := by
  obtain ⟨h0, h1, h2, h3, h4, h5, h6, h7, h8, h9, h10⟩ := h
  have ha := hW.alike
  exact ⟨h0, fun w hw hn => nest_warm hn hW (h1 w hw hn), h2.moved ha, h3.moved ha, h4.moved ha, h5.moved ha, h6.moved ha, h7.moved ha, h8.moved ha, h9.moved ha, fun i hi => (h10 i hi).warm hW⟩
theorem Stt.same {X : Scr} {g : Gl} {u U : State} {H : Heap} (h : Stt X g u H) (hv : u.vm = U.vm) : Stt X g U H := by
  obtain ⟨h0, h1, h2, h3, h4, h5, h6, h7, h8, h9, h10⟩ := h
  have ha : u.vm.Alike U.vm := by rw [hv]; exact Vm.Alike.refl _
  exact ⟨h0, fun w hw hn => nest_same hn hv (h1 w hw hn), h2.moved ha, h3.moved ha, h4.moved ha, h5.moved ha, h6.moved ha, h7.moved ha, h8.moved ha, h9.moved ha, fun i hi => (h10 i hi).same hv.symm⟩
theorem Stt.cat {X : Scr} {g : Gl} {U : State} {H : Heap} (h : Stt X g U H) : g.2.2.2.2.category = 1 := by
  rcases h.1 with e | ⟨t, e⟩ <;> rw [e] <;> rfl
theorem cv_cat {g : Gl} (hc : g.2.2.2.2.category = 1) (v : Value) : (cv g v).category = v.category := by
  cases v <;> first | rfl | exact hc
