/-! the pure part, 2: the reference's strokes, on its own cells -/
def putM (τ : Sto) (B : BS) : Sto := fun a j => if a = 17 then (if j = 3 then B.1 1 else if j = 4 then B.1 2 else if j = 5 then B.1 3 else if j = 6 then B.1 4 else τ 17 j) else if a = 19 then B.2 j else if a = 20 then (if j = 0 then B.1 5 else if j = 1 then B.1 6 else if j = 2 then B.1 7 else if j = 3 then B.1 8 else τ 20 j) else τ a j
section PutM
variable (τ : Sto) (B : BS)
theorem putM_3 : putM τ B 17 3 = B.1 1 := by simp [putM]
theorem putM_4 : putM τ B 17 4 = B.1 2 := by simp [putM]
theorem putM_5 : putM τ B 17 5 = B.1 3 := by simp [putM]
theorem putM_6 : putM τ B 17 6 = B.1 4 := by simp [putM]
theorem putM_19 : putM τ B 19 = B.2 := by funext j; simp [putM]
theorem putM_h0 : putM τ B 20 0 = B.1 5 := by simp [putM]
theorem putM_h1 : putM τ B 20 1 = B.1 6 := by simp [putM]
theorem putM_h2 : putM τ B 20 2 = B.1 7 := by simp [putM]
theorem putM_h3 : putM τ B 20 3 = B.1 8 := by simp [putM]
theorem putM_17 {j : Nat} (h : j ≠ 3 ∧ j ≠ 4 ∧ j ≠ 5 ∧ j ≠ 6) : putM τ B 17 j = τ 17 j := by simp [putM, h]
theorem putM_ne {a : Nat} (h : a ≠ 17 ∧ a ≠ 19 ∧ a ≠ 20) : putM τ B a = τ a := by funext j; simp [putM, h]
theorem putM_u3 (x : Int32) : upS (putM τ B) 17 3 x = putM τ (upd B.1 1 x, B.2) := by
  funext a j
  by_cases h : a = 17
  · subst h
    simp only [putM, upS, upd, if_true]
    grind
  · simp [putM, upS, upd, h]
theorem putM_u4 (x : Int32) : upS (putM τ B) 17 4 x = putM τ (upd B.1 2 x, B.2) := by
  funext a j
  by_cases h : a = 17
  · subst h
    simp only [putM, upS, upd, if_true]
    grind
  · simp [putM, upS, upd, h]
theorem putM_u5 (x : Int32) : upS (putM τ B) 17 5 x = putM τ (upd B.1 3 x, B.2) := by
  funext a j
  by_cases h : a = 17
  · subst h
    simp only [putM, upS, upd, if_true]
    grind
  · simp [putM, upS, upd, h]
theorem putM_u6 (x : Int32) : upS (putM τ B) 17 6 x = putM τ (upd B.1 4 x, B.2) := by
  funext a j
  by_cases h : a = 17
  · subst h
    simp only [putM, upS, upd, if_true]
    grind
  · simp [putM, upS, upd, h]
theorem putM_u19 (i : Nat) (x : Int32) : upS (putM τ B) 19 i x = putM τ (B.1, upd B.2 i x) := by
  funext a j
  by_cases h : a = 19
  · subst h
    simp [putM, upS, upd]
  · simp [putM, upS, h]
theorem putM_uh0 (x : Int32) : upS (putM τ B) 20 0 x = putM τ (upd B.1 5 x, B.2) := by
  funext a j
  by_cases h : a = 20
  · subst h
    simp only [putM, upS, upd, if_true]
    grind
  · simp [putM, upS, upd, h]
theorem putM_uh1 (x : Int32) : upS (putM τ B) 20 1 x = putM τ (upd B.1 6 x, B.2) := by
  funext a j
  by_cases h : a = 20
  · subst h
    simp only [putM, upS, upd, if_true]
    grind
  · simp [putM, upS, upd, h]
theorem putM_uh2 (x : Int32) : upS (putM τ B) 20 2 x = putM τ (upd B.1 7 x, B.2) := by
  funext a j
  by_cases h : a = 20
  · subst h
    simp only [putM, upS, upd, if_true]
    grind
  · simp [putM, upS, upd, h]
theorem putM_uh3 (x : Int32) : upS (putM τ B) 20 3 x = putM τ (upd B.1 8 x, B.2) := by
  funext a j
  by_cases h : a = 20
  · subst h
    simp only [putM, upS, upd, if_true]
    grind
  · simp [putM, upS, upd, h]
end PutM
theorem isIn_in {v a b : Int32} (σ : Sto) (h0 : a ≤ v) (h1 : v ≤ b) : fX4_isIn v a b σ = some (1, σ) := by
  unfold fX4_isIn fX4_isIn_e chkZ
  grind
theorem isIn_out {v a b : Int32} (σ : Sto) (h : ¬ (a ≤ v ∧ v ≤ b)) : fX4_isIn v a b σ = some (0, σ) := by
  unfold fX4_isIn fX4_isIn_e chkZ
  grind
theorem isIn_eq (v a b : Int32) (σ : Sto) : fX4_isIn v a b σ = some (if a ≤ v ∧ v ≤ b then 1 else 0, σ) := by
  unfold fX4_isIn fX4_isIn_e chkZ
  grind
theorem isCell_in {v : Int32} (σ : Sto) (h0 : 0 ≤ v) (h1 : v ≤ 23) : fX4_isCell v σ = some (1, σ) := by
  unfold fX4_isCell fX4_isCell_e chkZ
  grind
theorem isCell_out {v : Int32} (σ : Sto) (h : ¬ (0 ≤ v ∧ v ≤ 23)) : fX4_isCell v σ = some (0, σ) := by
  unfold fX4_isCell fX4_isCell_e chkZ
  grind
def qApart (a b : Int32) : Int32 := if b ≤ a then a - b else b - a
theorem apart_eq (a b : Int32) (σ : Sto) : fX4_apart a b σ = some (qApart a b, σ) := by
  unfold fX4_apart qApart
  grind
def qPlain (p h : Int32) : Int32 := if p / 6 = h / 6 then (if qApart p h = 1 then (if p ≤ h then (if 0 ≤ irm p 6 + -1 ∧ irm p 6 + -1 ≤ 5 then p + -1 else p) else (if 0 ≤ irm p 6 + 1 ∧ irm p 6 + 1 ≤ 5 then p + 1 else p)) else p) else p
theorem plain_eq (τ : Sto) (B : BS) : fX4_plainBeside (putM τ B) = some (qPlain (B.1 2) (B.1 3), putM τ B) := by
  unfold fX4_plainBeside fX4_plainBeside_b53 fX4_plainBeside_b32 qPlain
  simp only [apart_eq, isIn_eq, Option.bind_some, putM_4, putM_5]
  grind
def pAwayN (p h : Int32) : Int32 := pAway (fun j => if j = 2 then p else h)
theorem away_tab : ∀ n, n < 24 → ∀ m, m < 24 → pAwayN (nI n) (nI m) = qPlain (nI n) (nI m) := by decide +kernel
theorem pAway_N (f : Nat → Int32) : pAway f = pAwayN (f 2) (f 3) := by
  unfold pAwayN pAway pAway2
  simp
theorem away_eq {f : Nat → Int32} (h0 : 0 ≤ f 2) (h1 : f 2 ≤ 23) (g0 : 0 ≤ f 3) (g1 : f 3 ≤ 23) : pAway f = qPlain (f 2) (f 3) := by
  rw [pAway_N]
  obtain ⟨n, hn, e1⟩ := i32_nat 23 23 h0 h1 (by decide)
  obtain ⟨m, hm, e2⟩ := i32_nat 23 23 g0 g1 (by decide)
  rw [e1, e2]
  exact away_tab n (by omega) m (by omega)
theorem creep_tab : ∀ n, n < 24 → ((3 : Int32) ≤ nI n / 6 ↔ (24 : Int32) ≤ nI n + 6) := by decide +kernel
theorem seam_tab : ∀ n, n < 24 → ∀ m, m < 6 → nI n + pCmp (nI m) (irm (nI n) 6) = if nI m ≤ irm (nI n) 6 then (if irm (nI n) 6 ≤ nI m then nI n else nI n - 1) else nI n + 1 := by decide +kernel
/-- what is asked of a Back's numbers -/
def okB (B : BS) : Prop := (B.1 0 = 0 ∧ (∀ j, 9 ≤ j → B.1 j = 0) ∧ (∀ j, 24 ≤ j → B.2 j = 0)) ∧ (0 ≤ B.1 1 ∧ B.1 1 ≤ 5) ∧ (0 ≤ B.1 2 ∧ B.1 2 ≤ 24) ∧ (0 ≤ B.1 3 ∧ B.1 3 ≤ 23) ∧ (0 ≤ B.1 5 ∧ B.1 5 ≤ 1) ∧ (1 ≤ B.1 6 ∧ B.1 6 ≤ 3) ∧ (2 ≤ B.1 7 ∧ B.1 7 ≤ 5) ∧ (0 ≤ B.1 8 ∧ B.1 8 ≤ 5) ∧ ∀ j, 0 ≤ B.2 j ∧ B.2 j ≤ 9
