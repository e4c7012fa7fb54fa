/-! the pure part, 16: sums of SORE, BEARS, GRID -/
def g_is (s : Nat → Int32) : Nat → Int32
  | 0 => 0
  | i + 1 => g_is s i + s i
theorem so_c (σ : Sto) : ∀ m n i, m < n → i + m = 24 → fX0_soreOfAll_l4 1 n (g_is (σ 2) i) (nI i) σ = some (g_is (σ 2) 24, σ) := by
  intro m
  induction m with
  | zero =>
    intro n i hn hi
    obtain ⟨n, rfl⟩ : ∃ q, n = q + 1 := ⟨n - 1, by omega⟩
    have : i = 24 := by omega
    subst this
    rw [fX0_soreOfAll_l4, if_pos (show (24 : Int32) ≤ nI 24 by decide)]
  | succ m ih =>
    intro n i hn hi
    obtain ⟨n, rfl⟩ : ∃ q, n = q + 1 := ⟨n - 1, by omega⟩
    have h := ih n (i + 1) (by omega) (by omega)
    rw [fX0_soreOfAll_l4, if_neg (show ¬ (24 : Int32) ≤ nI (i) from nI_ge (b := 24) (by omega) (by decide)), if_pos (inb_nI (by omega) (by decide)), nI_clamp (by omega), nI_1]
    exact h
theorem so_m (τ : Sto) : ∀ m n i, m < n → i + m = 24 → fX4_count_l92 n (g_is (τ 19) i) (nI i) τ = some (g_is (τ 19) 24, τ) := by
  intro m
  induction m with
  | zero =>
    intro n i hn hi
    obtain ⟨n, rfl⟩ : ∃ q, n = q + 1 := ⟨n - 1, by omega⟩
    have : i = 24 := by omega
    subst this
    rw [fX4_count_l92, if_pos (show (24 : Int32) ≤ nI 24 by decide)]
  | succ m ih =>
    intro n i hn hi
    obtain ⟨n, rfl⟩ : ∃ q, n = q + 1 := ⟨n - 1, by omega⟩
    have h := ih n (i + 1) (by omega) (by omega)
    rw [fX4_count_l92, if_neg (show ¬ (24 : Int32) ≤ nI (i) from nI_ge (b := 24) (by omega) (by decide)), if_pos (inb_nI (by omega) (by decide)), nI_clamp (by omega), nI_1]
    exact h
def g_ar (s : Nat → Int32) (c : Int32) : Nat → Int32
  | 0 => 0
  | i + 1 => if pFar c (nI i) = 1 then g_ar s c i + s i else g_ar s c i
theorem ar_c (σ : Sto) (c : Int32) : ∀ m n i, m < n → i + m = 24 → fX0_soreAround_l4 1 n c (g_ar (σ 2) c i) (nI i) σ = some (g_ar (σ 2) c 24, σ) := by
  intro m
  induction m with
  | zero =>
    intro n i hn hi
    obtain ⟨n, rfl⟩ : ∃ q, n = q + 1 := ⟨n - 1, by omega⟩
    have : i = 24 := by omega
    subst this
    rw [fX0_soreAround_l4, if_pos (show (24 : Int32) ≤ nI 24 by decide)]
  | succ m ih =>
    intro n i hn hi
    obtain ⟨n, rfl⟩ : ∃ q, n = q + 1 := ⟨n - 1, by omega⟩
    have h := ih n (i + 1) (by omega) (by omega)
    rw [fX0_soreAround_l4, if_neg (show ¬ (24 : Int32) ≤ nI (i) from nI_ge (b := 24) (by omega) (by decide)), farApart_eq, Option.bind_some, if_pos (inb_nI (by omega) (by decide))]
    unfold fX0_soreAround_b28
    simp only [nI_clamp (show i < 2 ^ 31 by omega), nI_1]
    by_cases hc : pFar c (nI i) = 1
    · rw [g_ar, if_pos hc] at h
      rw [if_pos hc]
      exact h
    · rw [g_ar, if_neg hc] at h
      rw [if_neg hc]
      exact h
theorem ar_m (τ : Sto) {c : Int32} (c0 : 0 ≤ c) (c1 : c ≤ 23) : ∀ m n i, m < n → i + m = 24 → fX4_soreAround_l4 n c (g_ar (τ 19) c i) (nI i) τ = some (g_ar (τ 19) c 24, τ) := by
  intro m
  induction m with
  | zero =>
    intro n i hn hi
    obtain ⟨n, rfl⟩ : ∃ q, n = q + 1 := ⟨n - 1, by omega⟩
    have : i = 24 := by omega
    subst this
    rw [fX4_soreAround_l4, if_pos (show (24 : Int32) ≤ nI 24 by decide)]
  | succ m ih =>
    intro n i hn hi
    obtain ⟨n, rfl⟩ : ∃ q, n = q + 1 := ⟨n - 1, by omega⟩
    have h := ih n (i + 1) (by omega) (by omega)
    have hf := (far_eq c0 c1 (nI_pos' (n := i) (by omega)) (nI_le (b := 23) (by omega) (by decide))).2
    rw [fX4_soreAround_l4, if_neg (show ¬ (24 : Int32) ≤ nI (i) from nI_ge (b := 24) (by omega) (by decide)), farOf_eq, Option.bind_some, if_pos (inb_nI (by omega) (by decide))]
    unfold fX4_soreAround_b30
    simp only [nI_clamp (show i < 2 ^ 31 by omega), nI_1, int_0, ← hf]
    by_cases hc : pFar c (nI i) = 1
    · rw [g_ar, if_pos hc] at h
      rw [if_pos hc]
      exact h
    · rw [g_ar, if_neg hc] at h
      rw [if_neg hc]
      exact h
theorem ar_ca (σ : Sto) (c : Int32) : fX0_soreAround 1 c σ = some (g_ar (σ 2) c 24, σ) := ar_c σ c 24 300 0 (by decide) (by decide)
theorem ar_ma (τ : Sto) {c : Int32} (c0 : 0 ≤ c) (c1 : c ≤ 23) : fX4_soreAround c τ = some (g_ar (τ 19) c 24, τ) := ar_m τ c0 c1 24 300 0 (by decide) (by decide)
def g_be (a b v : Int32) : Int32 := if v = 0 then (if 0 ≤ a - b then b else a) else if 0 ≤ v then b else a
theorem ok_bears (a b : Int32) : g_Ok (fX3_bears a b) (fX4_bears a b) := by
  intro σ hI
  have m := hI.2.2.1
  by_cases h : 0 ≤ a ∧ a ≤ 23
  · by_cases k : 0 ≤ b ∧ b ≤ 23
    · by_cases hab : a = b
      · exact ⟨-1, g_rf 1 σ, g_rm 1 (g_rf 1 σ), by simp only [fX3_bears, fX3_bears_b19, isNoCell_in _ h.1 h.2, isNoCell_in _ k.1 k.2, if_pos hab, Option.bind_some, eq_self, if_true, if_false, i10, i01, m10, m20, m40, m60, m90, refuse_1], by simp only [fX4_bears, fX4_bears_b19, isCell_in _ h.1 h.2, isCell_in _ k.1 k.2, if_pos hab, Option.bind_some, eq_self, if_true, if_false, i10, i01, m10, m20, m40, m60, m90, no_1], In_rf 1 hI⟩
      · have ia := inb_of (N := 24) 23 (by decide) h.1 h.2
        have ib := inb_of (N := 24) 23 (by decide) k.1 k.2
        have e19 := m.2.2.2.2.1
        refine ⟨if σ 2 a.toNatClampNeg - σ 2 b.toNatClampNeg = 0 then g_be a b (g_ar (σ 2) a 24 - g_ar (σ 2) b 24) else g_be a b (σ 2 a.toNatClampNeg - σ 2 b.toNatClampNeg), σ, σ, ?_, ?_, hI⟩
        · simp only [fX3_bears, fX3_bears_b65, fX3_bears_b73, isNoCell_in _ h.1 h.2, isNoCell_in _ k.1 k.2, if_neg hab, soreAt_eq _ _ h.1 h.2, soreAt_eq _ _ k.1 k.2, ar_ca, Option.bind_some, eq_self, if_true, if_false, i10, i01, m10, m20, m40, m60, m90, push, g_be]
        · simp only [fX4_bears, fX4_bears_b55, fX4_bears_b63, isCell_in _ h.1 h.2, isCell_in _ k.1 k.2, if_neg hab, ia, ib, ar_ma _ h.1 h.2, ar_ma _ k.1 k.2, Option.bind_some, eq_self, if_true, if_false, i10, i01, m10, m20, m40, m60, m90, push, g_be, e19]
    · exact ⟨-1, g_rf 1 σ, g_rm 1 (g_rf 1 σ), by simp only [fX3_bears, fX3_bears_b19, isNoCell_in _ h.1 h.2, isNoCell_out _ k, Option.bind_some, eq_self, if_true, if_false, i10, i01, m10, m20, m40, m60, m90, refuse_1], by simp only [fX4_bears, fX4_bears_b19, isCell_in _ h.1 h.2, isCell_out _ k, Option.bind_some, eq_self, if_true, if_false, i10, i01, m10, m20, m40, m60, m90, no_1], In_rf 1 hI⟩
  · exact ⟨-1, g_rf 1 σ, g_rm 1 (g_rf 1 σ), by simp only [fX3_bears, fX3_bears_b19, isNoCell_out _ h, Option.bind_some, eq_self, if_true, if_false, i10, i01, m10, m20, m40, m60, m90, refuse_1], by simp only [fX4_bears, fX4_bears_b19, isCell_out _ h, Option.bind_some, eq_self, if_true, if_false, i10, i01, m10, m20, m40, m60, m90, no_1], In_rf 1 hI⟩
-- GRID
def g_bo (a b c : Int32) : Int32 := (b * (((c / 6) * a) / 4)) + (((irm c 6) * b) / 6)
def g_gc (a b x : Int32) : Nat → Int32
  | 0 => 0
  | c + 1 => if g_bo a b (nI c) = x then g_gc a b x c + 1 else g_gc a b x c
theorem gr_c (σ : Sto) (a b x : Int32) : ∀ m n c, m < n → c + m = 24 → fX3_grid_l86 n a b x (g_gc a b x c) (nI c) σ = some (g_gc a b x 24, σ) := by
  intro m
  induction m with
  | zero =>
    intro n i hn hi
    obtain ⟨n, rfl⟩ : ∃ q, n = q + 1 := ⟨n - 1, by omega⟩
    have : i = 24 := by omega
    subst this
    rw [fX3_grid_l86, if_pos (show (24 : Int32) ≤ nI 24 by decide)]
  | succ m ih =>
    intro n i hn hi
    obtain ⟨n, rfl⟩ : ∃ q, n = q + 1 := ⟨n - 1, by omega⟩
    have h := ih n (i + 1) (by omega) (by omega)
    have eb : fX3_boxOf a b (nI i) σ = some (g_bo a b (nI i), σ) := rfl
    rw [fX3_grid_l86, if_neg (show ¬ (24 : Int32) ≤ nI (i) from nI_ge (b := 24) (by omega) (by decide)), eb, Option.bind_some]
    unfold fX3_grid_b108
    simp only [nI_1]
    by_cases hc : g_bo a b (nI i) = x
    · rw [g_gc, if_pos hc] at h
      rw [if_pos hc]
      exact h
    · rw [g_gc, if_neg hc] at h
      rw [if_neg hc]
      exact h
theorem gr_m (σ : Sto) (a b w x : Int32) : ∀ m n c, m < n → c + m = 24 → fX4_grid_l86 n a b w x (g_gc a b x c) (nI c) σ = some (if w = 0 then x else g_gc a b x 24, σ) := by
  intro m
  induction m with
  | zero =>
    intro n i hn hi
    obtain ⟨n, rfl⟩ : ∃ q, n = q + 1 := ⟨n - 1, by omega⟩
    have : i = 24 := by omega
    subst this
    rw [fX4_grid_l86, if_pos (show (24 : Int32) ≤ nI 24 by decide)]
    split <;> rfl
  | succ m ih =>
    intro n i hn hi
    obtain ⟨n, rfl⟩ : ∃ q, n = q + 1 := ⟨n - 1, by omega⟩
    have h := ih n (i + 1) (by omega) (by omega)
    have eb : fX4_boxOf a b (nI i) σ = some (g_bo a b (nI i), σ) := rfl
    rw [fX4_grid_l86, if_neg (show ¬ (24 : Int32) ≤ nI (i) from nI_ge (b := 24) (by omega) (by decide)), eb, Option.bind_some]
    unfold fX4_grid_b112
    simp only [nI_1, int_0]
    by_cases hc : g_bo a b (nI i) = x
    · rw [g_gc, if_pos hc] at h
      rw [if_pos hc]
      exact h
    · rw [g_gc, if_neg hc] at h
      rw [if_neg hc]
      exact h
theorem gr_c0 (σ : Sto) (a b x : Int32) : fX3_grid_l86 300 a b x 0 0 σ = some (g_gc a b x 24, σ) := gr_c σ a b x 24 300 0 (by decide) (by decide)
theorem gr_m0 (σ : Sto) (a b w x : Int32) : fX4_grid_l86 300 a b w x 0 0 σ = some (if w = 0 then x else g_gc a b x 24, σ) := gr_m σ a b w x 24 300 0 (by decide) (by decide)
theorem ok_grid (a b c v : Int32) : g_Ok (fX3_grid a b c v) (fX4_grid a b c v) := by
  intro σ hI
  by_cases a1 : a < 1
  · exact ⟨-4, g_rf 4 σ, g_rm 4 (g_rf 4 σ), by simp only [fX3_grid, fX3_grid_b10, a1, Option.bind_some, eq_self, if_true, if_false, i10, i01, m10, m20, m40, m60, m90, refuse_4], by simp only [fX4_grid, fX4_grid_b10, fX4_grid_b58, a1, Option.bind_some, eq_self, if_true, if_false, i10, i01, m10, m20, m40, m60, m90, no_4], In_rf 4 hI⟩
  · by_cases b1 : 1 ≤ b
    · by_cases a4 : 4 < a
      · exact ⟨-6, g_rf 6 σ, g_rm 6 (g_rf 6 σ), by simp only [fX3_grid, fX3_grid_b28, a1, b1, a4, Option.bind_some, eq_self, if_true, if_false, i10, i01, m10, m20, m40, m60, m90, refuse_6], by simp only [fX4_grid, fX4_grid_b26, fX4_grid_b58, a1, b1, a4, Option.bind_some, eq_self, if_true, if_false, i10, i01, m10, m20, m40, m60, m90, no_6], In_rf 6 hI⟩
      · by_cases b6 : b ≤ 6
        · by_cases h : 0 ≤ c ∧ c ≤ 23
          · by_cases k : 0 ≤ v ∧ v < 2
            · have k5 : v ≤ 1 := n_lt 2 1 (by decide) (by decide) k (by decide)
              have eb3 : fX3_boxOf a b c σ = some (g_bo a b c, σ) := rfl
              have eb4 : fX4_boxOf a b c σ = some (g_bo a b c, σ) := rfl
              refine ⟨if v = 0 then g_bo a b c else g_gc a b (g_bo a b c) 24, σ, σ, ?_, ?_, hI⟩
              · simp only [fX3_grid, if_neg a1, if_pos b1, if_neg a4, if_pos b6, isNoCell_in _ h.1 h.2, isNot_in _ k.1 k.2, eb3, gr_c0, Option.bind_some, eq_self, if_true, if_false, i10, i01, m10, m20, m40, m60, m90, push]
              · simp only [fX4_grid, fX4_grid_b58, if_neg a1, if_pos b1, if_neg a4, if_pos b6, isCell_in _ h.1 h.2, isIn_in _ k.1 k5, eb4, gr_m0, Option.bind_some, eq_self, if_true, if_false, i10, i01, m10, m20, m40, m60, m90]
            · have k2 : ¬ (0 ≤ v ∧ v ≤ 1) := by grind
              exact ⟨-2, g_rf 2 σ, g_rm 2 (g_rf 2 σ), by simp only [fX3_grid, if_neg a1, if_pos b1, if_neg a4, if_pos b6, isNoCell_in _ h.1 h.2, isNot_out _ k, Option.bind_some, eq_self, if_true, if_false, i10, i01, m10, m20, m40, m60, m90, refuse_2], by simp only [fX4_grid, fX4_grid_b58, if_neg a1, if_pos b1, if_neg a4, if_pos b6, isCell_in _ h.1 h.2, isIn_out _ k2, Option.bind_some, eq_self, if_true, if_false, i10, i01, m10, m20, m40, m60, m90, no_2], In_rf 2 hI⟩
          · exact ⟨-1, g_rf 1 σ, g_rm 1 (g_rf 1 σ), by simp only [fX3_grid, if_neg a1, if_pos b1, if_neg a4, if_pos b6, isNoCell_out _ h, Option.bind_some, eq_self, if_true, if_false, i10, i01, m10, m20, m40, m60, m90, refuse_1], by simp only [fX4_grid, fX4_grid_b58, if_neg a1, if_pos b1, if_neg a4, if_pos b6, isCell_out _ h, Option.bind_some, eq_self, if_true, if_false, i10, i01, m10, m20, m40, m60, m90, no_1], In_rf 1 hI⟩
        · exact ⟨-6, g_rf 6 σ, g_rm 6 (g_rf 6 σ), by simp only [fX3_grid, fX3_grid_b28, a1, b1, a4, b6, Option.bind_some, eq_self, if_true, if_false, i10, i01, m10, m20, m40, m60, m90, refuse_6], by simp only [fX4_grid, fX4_grid_b26, fX4_grid_b58, a1, b1, a4, b6, Option.bind_some, eq_self, if_true, if_false, i10, i01, m10, m20, m40, m60, m90, no_6], In_rf 6 hI⟩
    · exact ⟨-4, g_rf 4 σ, g_rm 4 (g_rf 4 σ), by simp only [fX3_grid, fX3_grid_b10, a1, b1, Option.bind_some, eq_self, if_true, if_false, i10, i01, m10, m20, m40, m60, m90, refuse_4], by simp only [fX4_grid, fX4_grid_b10, fX4_grid_b58, a1, b1, Option.bind_some, eq_self, if_true, if_false, i10, i01, m10, m20, m40, m60, m90, no_4], In_rf 4 hI⟩
-- count
theorem within_in {v a b : Int32} (σ : Sto) (h0 : a ≤ v) (h1 : v ≤ b) : fX3_within v a b σ = some (1, σ) := by
  unfold fX3_within fX3_within_e chkZ
  grind
theorem within_out {v a b : Int32} (σ : Sto) (h : ¬ (a ≤ v ∧ v ≤ b)) : fX3_within v a b σ = some (0, σ) := by
  unfold fX3_within fX3_within_e chkZ
  grind
theorem sub10 : ∀ n, n < 17 → 11 ≤ n → (nI n - 10).toNatClampNeg = n - 10 ∧ inb (nI n - 10) 7 = true := by decide +kernel
theorem ok_count (v : Int32) : g_Ok (fX3_count v) (fX4_count v) := by
  intro σ hI
  have hI0 := hI
  obtain ⟨-, -, m, -, -, h18, l, s, r⟩ := hI0
  by_cases h : 11 ≤ v ∧ v ≤ 16
  · have hp : 0 ≤ v := Int32.le_trans (by decide) h.1
    obtain ⟨n, hn, rfl⟩ := i32_nat 16 16 hp h.2 (by decide)
    have hn11 : 11 ≤ n := (nI_leI (a := 11) (by decide) (by omega)).mp h.1
    have hs := sub10 n (by omega) hn11
    have ne : ∀ c : Nat, c < 10 → ¬ nI n = nI c := fun c hc e => by
      have := (nI_eq (by omega) (by omega)).mp e
      omega
    refine ⟨σ 16 (n - 10), σ, σ, ?_, ?_, hI⟩
    · unfold fX3_count
      rw [if_neg (show ¬ nI n = (0 : Int32) from ne 0 (by decide)), if_neg (show ¬ nI n = (1 : Int32) from ne 1 (by decide)), if_neg (show ¬ nI n = (2 : Int32) from ne 2 (by decide)), if_neg (show ¬ nI n = (3 : Int32) from ne 3 (by decide)), if_neg (show ¬ nI n = (4 : Int32) from ne 4 (by decide)), if_neg (show ¬ nI n = (5 : Int32) from ne 5 (by decide)), if_neg (show ¬ nI n = (6 : Int32) from ne 6 (by decide)), if_neg (show ¬ nI n = (7 : Int32) from ne 7 (by decide)), if_neg (show ¬ nI n = (8 : Int32) from ne 8 (by decide)), if_neg (show ¬ nI n = (9 : Int32) from ne 9 (by decide)), within_in _ h.1 h.2, Option.bind_some, if_neg (show ¬ (1 : Int32) = 0 by decide), if_pos hs.2, hs.1]
    · unfold fX4_count
      rw [isIn_in _ h.1 h.2, Option.bind_some, if_neg (show ¬ (1 : Int32) = 0 by decide), if_pos hs.2, hs.1]
      dsimp only
      rw [h18]
  · have ed : True := trivial
    by_cases e0 : v = 0
    · subst e0
      refine ⟨σ 1 4, σ, σ, ?_, ?_, hI⟩
      · unfold fX3_count
        rw [if_pos (show (0 : Int32) = 0 from rfl)]
      · unfold fX4_count
        rw [isIn_out _ h, Option.bind_some, if_pos rfl, if_pos (show (0 : Int32) = 0 from rfl)]
        dsimp only
        rw [m.2.2.2.1]
    by_cases e1 : v = 1
    · subst e1
      refine ⟨σ 1 3, σ, σ, ?_, ?_, hI⟩
      · unfold fX3_count
        rw [if_neg (show ¬ (1 : Int32) = 0 by decide), if_pos (show (1 : Int32) = 1 from rfl)]
      · unfold fX4_count
        rw [isIn_out _ h, Option.bind_some, if_pos rfl, if_neg (show ¬ (1 : Int32) = 0 by decide), if_pos (show (1 : Int32) = 1 from rfl)]
        dsimp only
        rw [m.2.2.1]
    by_cases e2 : v = 2
    · subst e2
      refine ⟨g_is (σ 2) 24, σ, σ, ?_, ?_, hI⟩
      · unfold fX3_count
        have e := so_c σ 24 300 0 (by decide) (by decide)
        have e' : fX0_soreOfAll 1 σ = some (g_is (σ 2) 24, σ) := e
        rw [if_neg (show ¬ (2 : Int32) = 0 by decide), if_neg (show ¬ (2 : Int32) = 1 by decide), if_pos (show (2 : Int32) = 2 from rfl), e', Option.bind_some]
      · unfold fX4_count
        have e := so_m σ 24 300 0 (by decide) (by decide)
        rw [m.2.2.2.2.1] at e
        rw [isIn_out _ h, Option.bind_some, if_pos rfl, if_neg (show ¬ (2 : Int32) = 0 by decide), if_neg (show ¬ (2 : Int32) = 1 by decide), if_pos (show (2 : Int32) = 2 from rfl)]
        exact e
    by_cases e3 : v = 3
    · subst e3
      refine ⟨σ 1 5, σ, σ, ?_, ?_, hI⟩
      · unfold fX3_count
        rw [if_neg (show ¬ (3 : Int32) = 0 by decide), if_neg (show ¬ (3 : Int32) = 1 by decide), if_neg (show ¬ (3 : Int32) = 2 by decide), if_pos (show (3 : Int32) = 3 from rfl)]
      · unfold fX4_count
        have hi : inb ((3 : Int32) - 3) 4 = true := by decide
        have hc : ((3 : Int32) - 3).toNatClampNeg = 0 := by decide
        rw [isIn_out _ h, Option.bind_some, if_pos rfl, if_neg (show ¬ (3 : Int32) = 0 by decide), if_neg (show ¬ (3 : Int32) = 1 by decide), if_neg (show ¬ (3 : Int32) = 2 by decide), if_pos (show (3 : Int32) = 3 from rfl), if_pos hi, hc]
        dsimp only
        rw [m.2.2.2.2.2.1]
    by_cases e4 : v = 4
    · subst e4
      refine ⟨σ 1 6, σ, σ, ?_, ?_, hI⟩
      · unfold fX3_count
        rw [if_neg (show ¬ (4 : Int32) = 0 by decide), if_neg (show ¬ (4 : Int32) = 1 by decide), if_neg (show ¬ (4 : Int32) = 2 by decide), if_neg (show ¬ (4 : Int32) = 3 by decide), if_pos (show (4 : Int32) = 4 from rfl)]
      · unfold fX4_count
        have hi : inb ((4 : Int32) - 3) 4 = true := by decide
        have hc : ((4 : Int32) - 3).toNatClampNeg = 1 := by decide
        rw [isIn_out _ h, Option.bind_some, if_pos rfl, if_neg (show ¬ (4 : Int32) = 0 by decide), if_neg (show ¬ (4 : Int32) = 1 by decide), if_neg (show ¬ (4 : Int32) = 2 by decide), if_neg (show ¬ (4 : Int32) = 3 by decide), if_pos (show (4 : Int32) = 4 from rfl), if_pos hi, hc]
        dsimp only
        rw [m.2.2.2.2.2.2.1]
    by_cases e5 : v = 5
    · subst e5
      refine ⟨σ 1 7, σ, σ, ?_, ?_, hI⟩
      · unfold fX3_count
        rw [if_neg (show ¬ (5 : Int32) = 0 by decide), if_neg (show ¬ (5 : Int32) = 1 by decide), if_neg (show ¬ (5 : Int32) = 2 by decide), if_neg (show ¬ (5 : Int32) = 3 by decide), if_neg (show ¬ (5 : Int32) = 4 by decide), if_pos (show (5 : Int32) = 5 from rfl)]
      · unfold fX4_count
        have hi : inb ((5 : Int32) - 3) 4 = true := by decide
        have hc : ((5 : Int32) - 3).toNatClampNeg = 2 := by decide
        rw [isIn_out _ h, Option.bind_some, if_pos rfl, if_neg (show ¬ (5 : Int32) = 0 by decide), if_neg (show ¬ (5 : Int32) = 1 by decide), if_neg (show ¬ (5 : Int32) = 2 by decide), if_neg (show ¬ (5 : Int32) = 3 by decide), if_neg (show ¬ (5 : Int32) = 4 by decide), if_pos (show (5 : Int32) = 5 from rfl), if_pos hi, hc]
        dsimp only
        rw [m.2.2.2.2.2.2.2.1]
    by_cases e6 : v = 6
    · subst e6
      refine ⟨σ 1 8, σ, σ, ?_, ?_, hI⟩
      · unfold fX3_count
        rw [if_neg (show ¬ (6 : Int32) = 0 by decide), if_neg (show ¬ (6 : Int32) = 1 by decide), if_neg (show ¬ (6 : Int32) = 2 by decide), if_neg (show ¬ (6 : Int32) = 3 by decide), if_neg (show ¬ (6 : Int32) = 4 by decide), if_neg (show ¬ (6 : Int32) = 5 by decide), if_pos (show (6 : Int32) = 6 from rfl)]
      · unfold fX4_count
        have hi : inb ((6 : Int32) - 3) 4 = true := by decide
        have hc : ((6 : Int32) - 3).toNatClampNeg = 3 := by decide
        rw [isIn_out _ h, Option.bind_some, if_pos rfl, if_neg (show ¬ (6 : Int32) = 0 by decide), if_neg (show ¬ (6 : Int32) = 1 by decide), if_neg (show ¬ (6 : Int32) = 2 by decide), if_neg (show ¬ (6 : Int32) = 3 by decide), if_neg (show ¬ (6 : Int32) = 4 by decide), if_neg (show ¬ (6 : Int32) = 5 by decide), if_pos (show (6 : Int32) = 6 from rfl), if_pos hi, hc]
        dsimp only
        rw [m.2.2.2.2.2.2.2.2]
    by_cases e7 : v = 7
    · subst e7
      refine ⟨σ 11 2, σ, σ, ?_, ?_, hI⟩
      · unfold fX3_count
        rw [if_neg (show ¬ (7 : Int32) = 0 by decide), if_neg (show ¬ (7 : Int32) = 1 by decide), if_neg (show ¬ (7 : Int32) = 2 by decide), if_neg (show ¬ (7 : Int32) = 3 by decide), if_neg (show ¬ (7 : Int32) = 4 by decide), if_neg (show ¬ (7 : Int32) = 5 by decide), if_neg (show ¬ (7 : Int32) = 6 by decide), if_pos (show (7 : Int32) = 7 from rfl)]
      · unfold fX4_count
        rw [isIn_out _ h, Option.bind_some, if_pos rfl, if_neg (show ¬ (7 : Int32) = 0 by decide), if_neg (show ¬ (7 : Int32) = 1 by decide), if_neg (show ¬ (7 : Int32) = 2 by decide), if_neg (show ¬ (7 : Int32) = 3 by decide), if_neg (show ¬ (7 : Int32) = 4 by decide), if_neg (show ¬ (7 : Int32) = 5 by decide), if_neg (show ¬ (7 : Int32) = 6 by decide), if_pos (show (7 : Int32) = 7 from rfl)]
        dsimp only
        rw [s.1]
    by_cases e8 : v = 8
    · subst e8
      refine ⟨σ 0 9, σ, σ, ?_, ?_, hI⟩
      · unfold fX3_count
        rw [if_neg (show ¬ (8 : Int32) = 0 by decide), if_neg (show ¬ (8 : Int32) = 1 by decide), if_neg (show ¬ (8 : Int32) = 2 by decide), if_neg (show ¬ (8 : Int32) = 3 by decide), if_neg (show ¬ (8 : Int32) = 4 by decide), if_neg (show ¬ (8 : Int32) = 5 by decide), if_neg (show ¬ (8 : Int32) = 6 by decide), if_neg (show ¬ (8 : Int32) = 7 by decide), if_pos (show (8 : Int32) = 8 from rfl)]
      · unfold fX4_count
        rw [isIn_out _ h, Option.bind_some, if_pos rfl, if_neg (show ¬ (8 : Int32) = 0 by decide), if_neg (show ¬ (8 : Int32) = 1 by decide), if_neg (show ¬ (8 : Int32) = 2 by decide), if_neg (show ¬ (8 : Int32) = 3 by decide), if_neg (show ¬ (8 : Int32) = 4 by decide), if_neg (show ¬ (8 : Int32) = 5 by decide), if_neg (show ¬ (8 : Int32) = 6 by decide), if_neg (show ¬ (8 : Int32) = 7 by decide), if_pos (show (8 : Int32) = 8 from rfl)]
        dsimp only
        rw [r.1]
    by_cases e9 : v = 9
    · subst e9
      refine ⟨σ 9 1, σ, σ, ?_, ?_, hI⟩
      · unfold fX3_count
        rw [if_neg (show ¬ (9 : Int32) = 0 by decide), if_neg (show ¬ (9 : Int32) = 1 by decide), if_neg (show ¬ (9 : Int32) = 2 by decide), if_neg (show ¬ (9 : Int32) = 3 by decide), if_neg (show ¬ (9 : Int32) = 4 by decide), if_neg (show ¬ (9 : Int32) = 5 by decide), if_neg (show ¬ (9 : Int32) = 6 by decide), if_neg (show ¬ (9 : Int32) = 7 by decide), if_neg (show ¬ (9 : Int32) = 8 by decide), if_pos (show (9 : Int32) = 9 from rfl)]
      · unfold fX4_count
        rw [isIn_out _ h, Option.bind_some, if_pos rfl, if_neg (show ¬ (9 : Int32) = 0 by decide), if_neg (show ¬ (9 : Int32) = 1 by decide), if_neg (show ¬ (9 : Int32) = 2 by decide), if_neg (show ¬ (9 : Int32) = 3 by decide), if_neg (show ¬ (9 : Int32) = 4 by decide), if_neg (show ¬ (9 : Int32) = 5 by decide), if_neg (show ¬ (9 : Int32) = 6 by decide), if_neg (show ¬ (9 : Int32) = 7 by decide), if_neg (show ¬ (9 : Int32) = 8 by decide), if_pos (show (9 : Int32) = 9 from rfl)]
        dsimp only
        rw [l.1]
    refine ⟨-9, σ, σ, ?_, ?_, hI⟩
    · unfold fX3_count
      rw [if_neg e0, if_neg e1, if_neg e2, if_neg e3, if_neg e4, if_neg e5, if_neg e6, if_neg e7, if_neg e8, if_neg e9, within_out _ h, Option.bind_some, if_pos rfl]
    · unfold fX4_count
      rw [isIn_out _ h, Option.bind_some, if_pos rfl, if_neg e0, if_neg e1, if_neg e2, if_neg e3, if_neg e4, if_neg e5, if_neg e6, if_neg e7, if_neg e8, if_neg e9]
