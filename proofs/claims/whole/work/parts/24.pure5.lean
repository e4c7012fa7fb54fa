/-! the pure part, 5: a Back taken over; all of it put away and back; what is kept of a run -/
def g_cp (k b j : Nat) (σ : Sto) : Sto := upS σ k j (σ b j)
set_option maxRecDepth 100000 in
theorem take_cp (k b : Nat) (σ : Sto) : fX0_take k b σ = some ((), g_cp k b 8 (g_cp k b 7 (g_cp k b 6 (g_cp k b 5 (g_cp k b 4 (g_cp k b 3 (g_cp k b 2 (g_cp k b 1 (setS σ (k + 1) (va_cpy (σ (b + 1)) (σ (k + 1)) 0 0 24))))))))) ) := rfl
theorem g_cp_put (σ : Sto) {k b : Nat} (j : Nat) (C : BS) (h1 : b ≠ k) (h2 : b ≠ k + 1) : g_cp k b j (putB σ k C) = putB σ k (upd C.1 j (σ b j), C.2) := by
  unfold g_cp
  rw [putB_ne _ _ _ h1 h2, putB_up]
theorem take_eq (σ : Sto) {k b : Nat} (h1 : b ≠ k) (h2 : b ≠ k + 1) (h3 : b + 1 ≠ k) (z1 : ∀ j, j = 0 ∨ 9 ≤ j → σ k j = σ b j) (z2 : ∀ j, 24 ≤ j → σ (k + 1) j = σ (b + 1) j) : fX0_take k b σ = some ((), putB σ k (σ b, σ (b + 1))) := by
  have e2 : va_cpy (σ (b + 1)) (σ (k + 1)) 0 0 24 = σ (b + 1) := by
    funext j
    unfold va_cpy
    by_cases hj : j < 24
    · rw [if_pos ⟨Nat.zero_le _, by omega⟩]
      congr 1
      omega
    · rw [if_neg (by omega)]
      exact z2 j (by omega)
  have e0 : setS σ (k + 1) (σ (b + 1)) = putB σ k (σ k, σ (b + 1)) := by
    funext a
    unfold putB setS
    by_cases ha : a = k
    · subst ha
      rw [if_neg (by omega), if_pos rfl]
    · by_cases ha2 : a = k + 1
      · subst ha2
        rw [if_pos rfl, if_neg (by omega)]
      · rw [if_neg ha2, if_neg ha]
  have e1 : upd (upd (upd (upd (upd (upd (upd (upd (σ k) 1 (σ b 1)) 2 (σ b 2)) 3 (σ b 3)) 4 (σ b 4)) 5 (σ b 5)) 6 (σ b 6)) 7 (σ b 7)) 8 (σ b 8) = σ b := by
    funext j
    simp only [upd]
    repeat' split
    all_goals first | (subst_vars; rfl) | exact z1 _ (by omega)
  rw [take_cp, e2, e0]
  simp only [g_cp_put _ _ _ h1 h2, e1]
theorem upS_app (σ : Sto) (k j : Nat) (x : Int32) (a i : Nat) : upS σ k j x a i = if a = k ∧ i = j then x else σ a i := by
  unfold upS upd
  by_cases h : a = k
  · subst h
    by_cases h2 : i = j <;> simp [h2]
  · simp [h]
theorem setS_app (σ : Sto) (k : Nat) (f : Nat → Int32) (a i : Nat) : setS σ k f a i = if a = k then f i else σ a i := by
  unfold setS
  by_cases h : a = k
  · subst h
    simp
  · simp [h]
def encB (B : BS) (o : Nat) : Int32 := if o < 24 then B.2 o else if o < 28 then B.1 (o - 19) else B.1 (o - 27)
def g_cu (τ : Sto) (kp : Int32) (c : Nat) : Sto := upS (upS τ 17 16 kp) 17 17 (nI c)
theorem putM_upf (τ : Sto) (B : BS) {a : Nat} (j : Nat) (x : Int32) (h : a ≠ 17 ∧ a ≠ 19 ∧ a ≠ 20) : upS (putM τ B) a j x = putM (upS τ a j x) B := by
  funext b i
  simp only [putM, upS_app]
  grind
theorem putM_up7 (τ : Sto) (B : BS) {j : Nat} (x : Int32) (h : j ≠ 3 ∧ j ≠ 4 ∧ j ≠ 5 ∧ j ≠ 6) : upS (putM τ B) 17 j x = putM (upS τ 17 j x) B := by
  funext b i
  simp only [putM, upS_app]
  grind
theorem putM_setf (τ : Sto) (B : BS) {a : Nat} (f : Nat → Int32) (h : a ≠ 17 ∧ a ≠ 19 ∧ a ≠ 20) : setS (putM τ B) a f = putM (setS τ a f) B := by
  funext b i
  simp only [putM, setS_app]
  grind
theorem putM_20 (τ : Sto) (B : BS) {i : Nat} (h : i < 4) : putM τ B 20 i = B.1 (5 + i) := by
  have : i = 0 ∨ i = 1 ∨ i = 2 ∨ i = 3 := by omega
  rcases this with rfl | rfl | rfl | rfl <;> simp [putM]
theorem putM_u20 (τ : Sto) (B : BS) {i : Nat} (x : Int32) (h : i < 4) : upS (putM τ B) 20 i x = putM τ (upd B.1 (5 + i) x, B.2) := by
  have : i = 0 ∨ i = 1 ∨ i = 2 ∨ i = 3 := by omega
  rcases this with rfl | rfl | rfl | rfl
  · exact putM_uh0 τ B x
  · exact putM_uh1 τ B x
  · exact putM_uh2 τ B x
  · exact putM_uh3 τ B x
theorem putM_congr (τ : Sto) {B C : BS} (h1 : ∀ j, 1 ≤ j → j ≤ 8 → B.1 j = C.1 j) (h2 : B.2 = C.2) : putM τ B = putM τ C := by
  funext a j
  simp only [putM, h2, h1 1 (by decide) (by decide), h1 2 (by decide) (by decide), h1 3 (by decide) (by decide), h1 4 (by decide) (by decide), h1 5 (by decide) (by decide), h1 6 (by decide) (by decide), h1 7 (by decide) (by decide), h1 8 (by decide) (by decide)]
theorem cu_16 (τ : Sto) (kp : Int32) (c : Nat) (B : BS) : putM (g_cu τ kp c) B 17 16 = kp := by simp [putM, g_cu, upS, upd]
theorem cu_17 (τ : Sto) (kp : Int32) (c : Nat) (B : BS) : putM (g_cu τ kp c) B 17 17 = nI c := by simp [putM, g_cu, upS, upd]
theorem cu_25 (τ : Sto) (kp : Int32) (c : Nat) (B : BS) : putM (g_cu τ kp c) B 25 = τ 25 := by
  funext j
  simp [putM, g_cu, upS]
theorem cu_u17 (τ : Sto) (kp : Int32) (c d : Nat) (B : BS) : upS (putM (g_cu τ kp c) B) 17 17 (nI d) = putM (g_cu τ kp d) B := by
  rw [putM_up7 _ _ _ (by decide)]
  congr 1
  funext a j
  simp only [g_cu, upS_app]
  grind
theorem cu_u25 (τ : Sto) (kp : Int32) (c j : Nat) (x : Int32) (B : BS) : upS (putM (g_cu τ kp c) B) 25 j x = putM (g_cu (upS τ 25 j x) kp c) B := by
  rw [putM_upf _ _ _ _ (by decide)]
  congr 1
  funext a i
  simp only [g_cu, upS_app]
  grind

theorem p19_save (B : BS) : ∀ m n i c (τ : Sto), m < n → i + m = 24 → c + m ≤ 105 → fX4_passes_19_l2 n (nI i) (putM (g_cu τ 1 c) B) = some ((), putM (g_cu (setS τ 25 (fun j => if c ≤ j ∧ j < c + m then B.2 (i + (j - c)) else τ 25 j)) 1 (c + m)) B) := by
  intro m
  induction m with
  | zero =>
    intro n i c τ hn hi hc
    cases n with
    | zero => omega
    | succ n =>
      have h1 : (24 : Int32) ≤ nI i := by
        have : i = 24 := by omega
        subst this
        decide
      have e : setS τ 25 (fun j => if c ≤ j ∧ j < c + 0 then B.2 (i + (j - c)) else τ 25 j) = τ := by
        funext a
        unfold setS
        by_cases ha : a = 25
        · subst ha
          rw [if_pos rfl]
          funext j
          rw [if_neg (by omega)]
        · rw [if_neg ha]
      rw [fX4_passes_19_l2, if_pos h1, e, Nat.add_zero]
  | succ m ih =>
    intro n i c τ hn hi hc
    cases n with
    | zero => omega
    | succ n =>
      have h1 : ¬ (24 : Int32) ≤ nI i := nI_ge (a := i) (b := 24) (by omega) (by decide)
      have i1 : inb (nI c) 105 = true := inb_nI (by omega) (by decide)
      have i2 : inb (nI i) 24 = true := inb_nI (by omega) (by decide)
      have c1 : (nI c).toNatClampNeg = c := nI_clamp (by omega)
      have c2 : (nI i).toNatClampNeg = i := nI_clamp (by omega)
      have h0 : ¬ (1 : Int32) = 0 := by decide
      rw [fX4_passes_19_l2, if_neg h1]
      simp only [cu_16, cu_17, h0, if_false, i1, i2, if_true, c1, c2, fX4_passes_19_b42, putM_19, cu_u25, nI_1, cu_u17]
      rw [ih n (i + 1) (c + 1) _ (by omega) (by omega) (by omega)]
      have e : setS (upS τ 25 c (B.2 i)) 25 (fun j => if c + 1 ≤ j ∧ j < c + 1 + m then B.2 (i + 1 + (j - (c + 1))) else upS τ 25 c (B.2 i) 25 j) = setS τ 25 (fun j => if c ≤ j ∧ j < c + (m + 1) then B.2 (i + (j - c)) else τ 25 j) := by
        funext a
        unfold setS
        by_cases ha : a = 25
        · subst ha
          simp only [if_true, upS, upd]
          funext j
          by_cases hj : j = c
          · subst hj
            rw [if_neg (by omega), if_pos rfl, if_pos (by omega)]
            exact congrArg B.2 (by omega)
          · by_cases hj2 : c + 1 ≤ j ∧ j < c + 1 + m
            · rw [if_pos hj2, if_pos (by omega)]
              exact congrArg B.2 (by omega)
            · rw [if_neg hj2, if_neg hj, if_neg (by omega)]
        · simp only [ha, if_false, upS]
      rw [e, show c + 1 + m = c + (m + 1) by omega]
theorem p20_save (B : BS) : ∀ m n i c (τ : Sto), m < n → i + m = 4 → c + m ≤ 105 → fX4_passes_20_l2 n (nI i) (putM (g_cu τ 1 c) B) = some ((), putM (g_cu (setS τ 25 (fun j => if c ≤ j ∧ j < c + m then B.1 (5 + (i + (j - c))) else τ 25 j)) 1 (c + m)) B) := by
  intro m
  induction m with
  | zero =>
    intro n i c τ hn hi hc
    cases n with
    | zero => omega
    | succ n =>
      have h1 : (4 : Int32) ≤ nI i := by
        have : i = 4 := by omega
        subst this
        decide
      have e : setS τ 25 (fun j => if c ≤ j ∧ j < c + 0 then B.1 (5 + (i + (j - c))) else τ 25 j) = τ := by
        funext a
        unfold setS
        by_cases ha : a = 25
        · subst ha
          rw [if_pos rfl]
          funext j
          rw [if_neg (by omega)]
        · rw [if_neg ha]
      rw [fX4_passes_20_l2, if_pos h1, e, Nat.add_zero]
  | succ m ih =>
    intro n i c τ hn hi hc
    cases n with
    | zero => omega
    | succ n =>
      have h1 : ¬ (4 : Int32) ≤ nI i := nI_ge (a := i) (b := 4) (by omega) (by decide)
      have i1 : inb (nI c) 105 = true := inb_nI (by omega) (by decide)
      have i2 : inb (nI i) 4 = true := inb_nI (by omega) (by decide)
      have c1 : (nI c).toNatClampNeg = c := nI_clamp (by omega)
      have c2 : (nI i).toNatClampNeg = i := nI_clamp (by omega)
      have h0 : ¬ (1 : Int32) = 0 := by decide
      rw [fX4_passes_20_l2, if_neg h1]
      simp only [cu_16, cu_17, h0, if_false, i1, i2, if_true, c1, c2, fX4_passes_20_b42, putM_20 _ _ (show i < 4 by omega), cu_u25, nI_1, cu_u17]
      rw [ih n (i + 1) (c + 1) _ (by omega) (by omega) (by omega)]
      have e : setS (upS τ 25 c (B.1 (5 + i))) 25 (fun j => if c + 1 ≤ j ∧ j < c + 1 + m then B.1 (5 + (i + 1 + (j - (c + 1)))) else upS τ 25 c (B.1 (5 + i)) 25 j) = setS τ 25 (fun j => if c ≤ j ∧ j < c + (m + 1) then B.1 (5 + (i + (j - c))) else τ 25 j) := by
        funext a
        unfold setS
        by_cases ha : a = 25
        · subst ha
          simp only [if_true, upS, upd]
          funext j
          by_cases hj : j = c
          · subst hj
            rw [if_neg (by omega), if_pos rfl, if_pos (by omega)]
            exact congrArg B.1 (by omega)
          · by_cases hj2 : c + 1 ≤ j ∧ j < c + 1 + m
            · rw [if_pos hj2, if_pos (by omega)]
              exact congrArg B.1 (by omega)
            · rw [if_neg hj2, if_neg hj, if_neg (by omega)]
        · simp only [ha, if_false, upS]
      rw [e, show c + 1 + m = c + (m + 1) by omega]
theorem p19_back (τ : Sto) : ∀ m n i c (A D : Nat → Int32), m < n → i + m = 24 → c + m ≤ 105 → fX4_passes_19_l2 n (nI i) (putM (g_cu τ 0 c) (A, D)) = some ((), putM (g_cu τ 0 (c + m)) (A, fun j => if i ≤ j ∧ j < i + m then τ 25 (c + (j - i)) else D j)) := by
  intro m
  induction m with
  | zero =>
    intro n i c A D hn hi hc
    cases n with
    | zero => omega
    | succ n =>
      have h1 : (24 : Int32) ≤ nI i := by
        have : i = 24 := by omega
        subst this
        decide
      have e : (fun j => if i ≤ j ∧ j < i + 0 then τ 25 (c + (j - i)) else D j) = D := by
        funext j
        rw [if_neg (by omega)]
      rw [fX4_passes_19_l2, if_pos h1, Nat.add_zero, e]
  | succ m ih =>
    intro n i c A D hn hi hc
    cases n with
    | zero => omega
    | succ n =>
      have h1 : ¬ (24 : Int32) ≤ nI i := nI_ge (a := i) (b := 24) (by omega) (by decide)
      have i1 : inb (nI c) 105 = true := inb_nI (by omega) (by decide)
      have i2 : inb (nI i) 24 = true := inb_nI (by omega) (by decide)
      have c1 : (nI c).toNatClampNeg = c := nI_clamp (by omega)
      have c2 : (nI i).toNatClampNeg = i := nI_clamp (by omega)
      rw [fX4_passes_19_l2, if_neg h1]
      simp only [cu_16, cu_17, i1, i2, if_true, c1, c2, fX4_passes_19_b42, cu_25, putM_u19, nI_1, cu_u17]
      rw [ih n (i + 1) (c + 1) _ _ (by omega) (by omega) (by omega), show c + 1 + m = c + (m + 1) by omega]
      have e : (fun j => if i + 1 ≤ j ∧ j < i + 1 + m then τ 25 (c + 1 + (j - (i + 1))) else upd D i (τ 25 c) j) = (fun j => if i ≤ j ∧ j < i + (m + 1) then τ 25 (c + (j - i)) else D j) := by
        funext j
        simp only [upd]
        grind
      rw [e]
theorem p20_back (τ : Sto) : ∀ m n i c (A D : Nat → Int32), m < n → i + m = 4 → c + m ≤ 105 → fX4_passes_20_l2 n (nI i) (putM (g_cu τ 0 c) (A, D)) = some ((), putM (g_cu τ 0 (c + m)) (fun j => if 5 + i ≤ j ∧ j < 5 + i + m then τ 25 (c + (j - 5 - i)) else A j, D)) := by
  intro m
  induction m with
  | zero =>
    intro n i c A D hn hi hc
    cases n with
    | zero => omega
    | succ n =>
      have h1 : (4 : Int32) ≤ nI i := by
        have : i = 4 := by omega
        subst this
        decide
      have e : (fun j => if 5 + i ≤ j ∧ j < 5 + i + 0 then τ 25 (c + (j - 5 - i)) else A j) = A := by
        funext j
        rw [if_neg (by omega)]
      rw [fX4_passes_20_l2, if_pos h1, Nat.add_zero, e]
  | succ m ih =>
    intro n i c A D hn hi hc
    cases n with
    | zero => omega
    | succ n =>
      have h1 : ¬ (4 : Int32) ≤ nI i := nI_ge (a := i) (b := 4) (by omega) (by decide)
      have i1 : inb (nI c) 105 = true := inb_nI (by omega) (by decide)
      have i2 : inb (nI i) 4 = true := inb_nI (by omega) (by decide)
      have c1 : (nI c).toNatClampNeg = c := nI_clamp (by omega)
      have c2 : (nI i).toNatClampNeg = i := nI_clamp (by omega)
      rw [fX4_passes_20_l2, if_neg h1]
      simp only [cu_16, cu_17, i1, i2, if_true, c1, c2, fX4_passes_20_b42, cu_25, putM_u20 _ _ _ (show i < 4 by omega), nI_1, cu_u17]
      rw [ih n (i + 1) (c + 1) _ _ (by omega) (by omega) (by omega), show c + 1 + m = c + (m + 1) by omega]
      have e : (fun j => if 5 + (i + 1) ≤ j ∧ j < 5 + (i + 1) + m then τ 25 (c + 1 + (j - 5 - (i + 1))) else upd A (5 + i) (τ 25 c) j) = (fun j => if 5 + i ≤ j ∧ j < 5 + i + (m + 1) then τ 25 (c + (j - 5 - i)) else A j) := by
        funext j
        simp only [upd]
        grind
      rw [e]
theorem pOne_save (v : Int32) (B : BS) (c : Nat) (τ : Sto) (h : c < 105) : fX4_passOne v (putM (g_cu τ 1 c) B) = some (v, putM (g_cu (upS τ 25 c v) 1 (c + 1)) B) := by
  have i1 : inb (nI c) 105 = true := inb_nI (by omega) (by decide)
  have c1 : (nI c).toNatClampNeg = c := nI_clamp (by omega)
  have h0 : ¬ (1 : Int32) = 0 := by decide
  unfold fX4_passOne fX4_passOne_b20 fX4_passOne_b38
  simp only [cu_16, cu_17, h0, if_false, i1, if_true, c1, cu_u25, nI_1, cu_u17]
theorem pOne_back (v : Int32) (B : BS) (c : Nat) (τ : Sto) (h : c < 105) : fX4_passOne v (putM (g_cu τ 0 c) B) = some (τ 25 c, putM (g_cu τ 0 (c + 1)) B) := by
  have i1 : inb (nI c) 105 = true := inb_nI (by omega) (by decide)
  have c1 : (nI c).toNatClampNeg = c := nI_clamp (by omega)
  unfold fX4_passOne fX4_passOne_b20 fX4_passOne_b38
  simp only [cu_16, cu_17, i1, if_true, c1, cu_25, nI_1, cu_u17]
def g_sv (w : Nat) (B : BS) (τ : Sto) : Sto := g_cu (setS τ 25 (fun j => if 35 * w ≤ j ∧ j < 35 * w + 32 then encB B (j - 35 * w) else τ 25 j)) 1 (35 * w + 32)
theorem cu_in (τ : Sto) (B : BS) (kp : Int32) (w : Nat) (hw : w < 3) : upS (upS (putM τ B) 17 17 ((35 : Int32) * nI w)) 17 16 kp = putM (g_cu τ kp (35 * w)) B := by
  have e : (35 : Int32) * nI w = nI (35 * w) := by
    have : w = 0 ∨ w = 1 ∨ w = 2 := by omega
    rcases this with rfl | rfl | rfl <;> decide
  rw [e, putM_up7 _ _ _ (by decide), putM_up7 _ _ _ (by decide)]
  congr 1
  funext a j
  simp only [g_cu, upS_app]
  grind
theorem updId (f : Nat → Int32) (j : Nat) : upd f j (f j) = f := by
  funext i
  unfold upd
  split
  · rename_i h
    rw [h]
  · rfl
theorem passes_save (w : Nat) (hw : w < 3) (τ : Sto) (B : BS) : fX4_passesAll (nI w) 1 (putM τ B) = some ((), putM (g_sv w B τ) B) := by
  unfold fX4_passesAll
  rw [if_pos (Or.inr rfl), cu_in τ B 1 w hw]
  unfold fX4_passesAll_b13 fX4_passes_19 fX4_passes_20
  have e19 := p19_save B 24 300 0 (35 * w) τ (by decide) (by decide) (by omega)
  have e20 := fun τ => p20_save B 4 300 0 (35 * w + 24) τ (by decide) (by decide) (by omega)
  rw [nI_0] at e19 e20
  rw [e19]
  simp only [Option.bind_some]
  rw [e20]
  simp only [Option.bind_some]
  rw [pOne_save _ _ _ _ (by omega)]
  simp only [Option.bind_some, putM_u3, putM_3, updId]
  unfold fX4_passesAll_b41
  rw [pOne_save _ _ _ _ (by omega)]
  simp only [Option.bind_some, putM_u4, putM_4, updId]
  unfold fX4_passesAll_b53
  rw [pOne_save _ _ _ _ (by omega)]
  simp only [Option.bind_some, putM_u5, putM_5, updId]
  unfold fX4_passesAll_b65
  rw [pOne_save _ _ _ _ (by omega)]
  simp only [Option.bind_some, putM_u6, putM_6, updId]
  refine congrArg (fun t => some ((), putM (g_cu t 1 (35 * w + 32)) B)) ?_
  funext a j
  simp only [setS_app, upS_app]
  by_cases ha : a = 25
  · subst ha
    simp only [if_true, true_and]
    by_cases h1 : j < 35 * w
    · rw [if_neg (by omega), if_neg (by omega), if_neg (by omega), if_neg (by omega), if_neg (by omega), if_neg (by omega), if_neg (by omega)]
    · obtain ⟨o, rfl⟩ : ∃ o, j = 35 * w + o := ⟨j - 35 * w, by omega⟩
      have e : 35 * w + o - 35 * w = o := by omega
      unfold encB
      rw [e]
      by_cases h2 : o < 24
      · rw [if_neg (by omega), if_neg (by omega), if_neg (by omega), if_neg (by omega), if_neg (by omega), if_pos (by omega), if_pos (by omega), if_pos h2]
        exact congrArg B.2 (by omega)
      · by_cases h3 : o < 28
        · rw [if_neg (by omega), if_neg (by omega), if_neg (by omega), if_neg (by omega), if_pos (by omega), if_pos (by omega), if_neg h2, if_pos h3]
          exact congrArg B.1 (by omega)
        · by_cases h4 : o < 32
          · rw [if_pos (show 35 * w ≤ 35 * w + o ∧ 35 * w + o < 35 * w + 32 by omega), if_neg h2, if_neg h3]
            have : o = 28 ∨ o = 29 ∨ o = 30 ∨ o = 31 := by omega
            rcases this with rfl | rfl | rfl | rfl
            · rw [if_neg (by omega), if_neg (by omega), if_neg (by omega), if_pos (by omega)]
            · rw [if_neg (by omega), if_neg (by omega), if_pos (by omega)]
            · rw [if_neg (by omega), if_pos (by omega)]
            · rw [if_pos (by omega)]
          · rw [if_neg (by omega), if_neg (by omega), if_neg (by omega), if_neg (by omega), if_neg (by omega), if_neg (by omega), if_neg (by omega)]
  · simp only [ha, if_false, false_and]
theorem passes_back (w : Nat) (hw : w < 3) (τ : Sto) (B C : BS) (hk : ∀ o, o < 32 → τ 25 (35 * w + o) = encB C o) (hz : ∀ j, 24 ≤ j → B.2 j = C.2 j) : fX4_passesAll (nI w) 0 (putM τ B) = some ((), putM (g_cu τ 0 (35 * w + 32)) C) := by
  unfold fX4_passesAll
  rw [if_pos (Or.inl rfl), cu_in τ B 0 w hw]
  unfold fX4_passesAll_b13 fX4_passes_19 fX4_passes_20
  have e19 := p19_back τ 24 300 0 (35 * w) B.1 B.2 (by decide) (by decide) (by omega)
  have e20 := fun A D => p20_back τ 4 300 0 (35 * w + 24) A D (by decide) (by decide) (by omega)
  rw [nI_0] at e19 e20
  rw [e19]
  simp only [Option.bind_some]
  rw [e20]
  simp only [Option.bind_some]
  rw [pOne_back _ _ _ _ (by omega)]
  simp only [Option.bind_some, putM_u3]
  unfold fX4_passesAll_b41
  rw [pOne_back _ _ _ _ (by omega)]
  simp only [Option.bind_some, putM_u4]
  unfold fX4_passesAll_b53
  rw [pOne_back _ _ _ _ (by omega)]
  simp only [Option.bind_some, putM_u5]
  unfold fX4_passesAll_b65
  rw [pOne_back _ _ _ _ (by omega)]
  simp only [Option.bind_some, putM_u6]
  refine congrArg (fun t => some ((), t)) ?_
  refine putM_congr _ ?_ ?_
  · intro j h1 h8
    have k (o : Nat) (ho : o < 32) := hk o ho
    have : j = 1 ∨ j = 2 ∨ j = 3 ∨ j = 4 ∨ j = 5 ∨ j = 6 ∨ j = 7 ∨ j = 8 := by omega
    rcases this with rfl | rfl | rfl | rfl | rfl | rfl | rfl | rfl
    · have := k 28 (by decide); simpa [upd, encB] using this
    · have := k 29 (by decide); simpa [upd, encB] using this
    · have := k 30 (by decide); simpa [upd, encB] using this
    · have := k 31 (by decide); simpa [upd, encB] using this
    · have := k 24 (by decide); simpa [upd, encB] using this
    · have := k 25 (by decide); simpa [upd, encB] using this
    · have := k 26 (by decide); simpa [upd, encB] using this
    · have := k 27 (by decide); simpa [upd, encB] using this
  · funext j
    by_cases hj : j < 24
    · have := hk j (by omega)
      simp only [encB, hj, if_true] at this
      rw [← this]
      simp [hj]
    · have := hz j (by omega)
      simp [hj, this]
theorem sv_kept (w : Nat) (B : BS) (τ : Sto) : ∀ o, o < 32 → g_sv w B τ 25 (35 * w + o) = encB B o := by
  intro o ho
  have : g_sv w B τ 25 = fun j => if 35 * w ≤ j ∧ j < 35 * w + 32 then encB B (j - 35 * w) else τ 25 j := by
    simp [g_sv, g_cu, upS, setS]
  rw [this]
  simp only
  rw [if_pos (by omega)]
  congr 1
  omega
