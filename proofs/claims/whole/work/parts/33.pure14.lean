/-! the pure part, 14: SAYINGS that are true; MAY, LOTS, TAUGHT -/
def g_tr (c w : Nat → Int32) (x l t : Int32) : Nat → Nat
  | 0 => 0
  | i + 1 => g_tr c w x l t i + if pWord (c i) x l t = w i then 1 else 0
theorem tr_le (c w : Nat → Int32) (x l t : Int32) : ∀ i, g_tr c w x l t i ≤ i := by
  intro i
  induction i with
  | zero => exact Nat.le_refl _
  | succ i ih =>
    unfold g_tr
    split <;> omega
theorem tr_cl (σ : Sto) (x l t : Int32) (M : Nat) (hM : M ≤ 8) (h2 : σ 11 2 = nI M) : ∀ m n i, m < n → i + m = M → fX1_trueAt_l6 n x l t (nI (g_tr (σ 12) (σ 13) x l t i)) (nI i) σ = some (nI (g_tr (σ 12) (σ 13) x l t M), σ) := by
  intro m
  induction m with
  | zero =>
    intro n i hn hi
    obtain ⟨n, rfl⟩ : ∃ q, n = q + 1 := ⟨n - 1, by omega⟩
    have : i = M := by omega
    subst this
    rw [fX1_trueAt_l6, h2, if_pos (nI_le (Nat.le_refl _) (by omega))]
  | succ m ih =>
    intro n i hn hi
    obtain ⟨n, rfl⟩ : ∃ q, n = q + 1 := ⟨n - 1, by omega⟩
    have hI := ih n (i + 1) (by omega) (by omega)
    rw [fX1_trueAt_l6, h2, if_neg (nI_ge (by omega) (by omega)), if_neg (show ¬ (8 : Int32) ≤ nI (i) from nI_ge (b := 8) (by omega) (by decide)), if_pos (inb_nI (by omega) (by decide)), wordSaid_eq, Option.bind_some, if_pos (inb_nI (by omega) (by decide))]
    unfold fX1_trueAt_b48
    simp only [nI_clamp (show i < 2 ^ 31 by omega), nI_1]
    by_cases hc : pWord (σ 12 i) x l t = σ 13 i
    · have e : g_tr (σ 12) (σ 13) x l t (i + 1) = g_tr (σ 12) (σ 13) x l t i + 1 := by rw [g_tr, if_pos hc]
      rw [e] at hI
      rw [if_pos hc]
      exact hI
    · have e : g_tr (σ 12) (σ 13) x l t (i + 1) = g_tr (σ 12) (σ 13) x l t i := by rw [g_tr, if_neg hc, Nat.add_zero]
      rw [e] at hI
      rw [if_neg hc]
      exact hI
theorem int_0 (x : Int32) : x + 0 = x := Int32.add_zero x
theorem rb_l (τ : Sto) {x l t : Int32} (x0 : 0 ≤ x) (x1 : x ≤ 24) (l0 : 0 ≤ l) (l1 : l ≤ 1) (t0 : 2 ≤ t) (t1 : t ≤ 5) (hcr : ∀ j, 0 ≤ τ 26 j ∧ τ 26 j ≤ 23) (M : Nat) (hM : M ≤ 8) (h2 : τ 17 23 = nI M) : ∀ m n i, m < n → i + m = M → fX4_rightBy_l6 n x l t (nI (g_tr (τ 26) (τ 27) x l t i)) (nI i) τ = some (nI (g_tr (τ 26) (τ 27) x l t M), τ) := by
  intro m
  induction m with
  | zero =>
    intro n i hn hi
    obtain ⟨n, rfl⟩ : ∃ q, n = q + 1 := ⟨n - 1, by omega⟩
    have : i = M := by omega
    subst this
    rw [fX4_rightBy_l6, h2, if_pos (nI_le (Nat.le_refl _) (by omega))]
  | succ m ih =>
    intro n i hn hi
    obtain ⟨n, rfl⟩ : ∃ q, n = q + 1 := ⟨n - 1, by omega⟩
    have hI := ih n (i + 1) (by omega) (by omega)
    have ew := word_eq (hcr i).1 (hcr i).2 x0 x1 l0 l1 t0 t1
    rw [fX4_rightBy_l6, h2, if_neg (nI_ge (by omega) (by omega)), if_pos (inb_nI (by omega) (by decide)), wordBy_eq, Option.bind_some, if_pos (inb_nI (by omega) (by decide))]
    unfold fX4_rightBy_b46
    simp only [nI_clamp (show i < 2 ^ 31 by omega), nI_1, int_0, ← ew]
    by_cases hc : pWord (τ 26 i) x l t = τ 27 i
    · have e : g_tr (τ 26) (τ 27) x l t (i + 1) = g_tr (τ 26) (τ 27) x l t i + 1 := by rw [g_tr, if_pos hc]
      rw [e] at hI
      rw [if_pos hc]
      exact hI
    · have e : g_tr (τ 26) (τ 27) x l t (i + 1) = g_tr (τ 26) (τ 27) x l t i := by rw [g_tr, if_neg hc, Nat.add_zero]
      rw [e] at hI
      rw [if_neg hc]
      exact hI
def g_ts (σ : Sto) (x l t : Int32) : Nat := g_tr (σ 12) (σ 13) x l t (σ 11 2).toNatClampNeg
theorem say_N {σ : Sto} (hI : g_Sa σ) : ∃ N : Nat, N ≤ 8 ∧ σ 11 2 = nI N ∧ (σ 11 2).toNatClampNeg = N := by
  obtain ⟨-, h, -⟩ := hI
  obtain ⟨N, hN, e⟩ := i32_nat 8 8 h.1 h.2 (by decide)
  exact ⟨N, hN, e, by rw [e]; exact nI_clamp (by omega)⟩
theorem ts_le {σ : Sto} (hI : g_Sa σ) (x l t : Int32) : g_ts σ x l t ≤ 8 := by
  obtain ⟨N, hN, e, ec⟩ := say_N hI
  unfold g_ts
  rw [ec]
  exact Nat.le_trans (tr_le _ _ _ _ _ _) hN
theorem tr_c {σ : Sto} (hI : g_Sa σ) (x l t : Int32) : fX1_trueAt x l t σ = some (nI (g_ts σ x l t), σ) := by
  obtain ⟨N, hN, e, ec⟩ := say_N hI
  have h := tr_cl σ x l t N hN e N 300 0 (by omega) (by omega)
  unfold fX1_trueAt g_ts
  rw [ec]
  exact h
theorem rb_m {σ : Sto} (hI : g_Sa σ) {x l t : Int32} (x0 : 0 ≤ x) (x1 : x ≤ 24) (l0 : 0 ≤ l) (l1 : l ≤ 1) (t0 : 2 ≤ t) (t1 : t ≤ 5) : fX4_rightBy x l t σ = some (nI (g_ts σ x l t), σ) := by
  obtain ⟨N, hN, e, ec⟩ := say_N hI
  obtain ⟨s1, -, s3, s4, s5, -⟩ := hI
  have h := rb_l σ x0 x1 l0 l1 t0 t1 (by rw [s3]; exact s5) N hN (by rw [s1, e]) N 300 0 (by omega) (by omega)
  unfold fX4_rightBy g_ts
  rw [ec]
  rw [s3, s4] at h
  exact h
def g_cb (f : Nat → Int32) (M : Int32) : Nat → Int32
  | 0 => 0
  | c + 1 => if f c = M then g_cb f M c ||| ishl5 1 (nI c) else g_cb f M c
def g_cy (σ : Sto) (l t : Int32) : Int32 := g_cb (fun c => nI (g_ts σ (nI c) l t)) (σ 11 2) 24
theorem cy_cl {σ : Sto} (hI : g_Sa σ) (l t : Int32) : ∀ m n c, m < n → c + m = 24 → fX1_cellsBy_l5 n l t (g_cb (fun c => nI (g_ts σ (nI c) l t)) (σ 11 2) c) (nI c) σ = some (g_cy σ l t, σ) := by
  intro m
  induction m with
  | zero =>
    intro n c hn hc
    obtain ⟨n, rfl⟩ : ∃ q, n = q + 1 := ⟨n - 1, by omega⟩
    have : c = 24 := by omega
    subst this
    rw [fX1_cellsBy_l5, if_pos (show (24 : Int32) ≤ nI 24 by decide)]
    rfl
  | succ m ih =>
    intro n c hn hc
    obtain ⟨n, rfl⟩ : ∃ q, n = q + 1 := ⟨n - 1, by omega⟩
    have hi := ih n (c + 1) (by omega) (by omega)
    rw [fX1_cellsBy_l5, if_neg (show ¬ (24 : Int32) ≤ nI (c) from nI_ge (b := 24) (by omega) (by decide)), tr_c hI, Option.bind_some]
    unfold fX1_cellsBy_b34
    simp only [nI_1]
    by_cases hc2 : nI (g_ts σ (nI c) l t) = σ 11 2
    · rw [g_cb, if_pos hc2] at hi
      rw [if_pos hc2]
      exact hi
    · rw [g_cb, if_neg hc2] at hi
      rw [if_neg hc2]
      exact hi
theorem cy_c {σ : Sto} (hI : g_Sa σ) (l t : Int32) : fX1_cellsBy l t σ = some (g_cy σ l t, σ) := cy_cl hI l t 24 300 0 (by decide) (by decide)
theorem my_l {σ : Sto} (hI : g_Sa σ) {l t : Int32} (l0 : 0 ≤ l) (l1 : l ≤ 1) (t0 : 2 ≤ t) (t1 : t ≤ 5) : ∀ m n c, m < n → c + m = 24 → fX4_mayBy_l5 n l t (g_cb (fun c => nI (g_ts σ (nI c) l t)) (σ 11 2) c) (nI c) σ = some (g_cy σ l t, σ) := by
  intro m
  induction m with
  | zero =>
    intro n c hn hc
    obtain ⟨n, rfl⟩ : ∃ q, n = q + 1 := ⟨n - 1, by omega⟩
    have : c = 24 := by omega
    subst this
    rw [fX4_mayBy_l5, if_pos (show (24 : Int32) ≤ nI 24 by decide)]
    rfl
  | succ m ih =>
    intro n c hn hc
    obtain ⟨n, rfl⟩ : ∃ q, n = q + 1 := ⟨n - 1, by omega⟩
    have hi := ih n (c + 1) (by omega) (by omega)
    rw [fX4_mayBy_l5, if_neg (show ¬ (24 : Int32) ≤ nI (c) from nI_ge (b := 24) (by omega) (by decide)), rb_m hI (nI_pos' (by omega)) (nI_le (b := 24) (by omega) (by decide)) l0 l1 t0 t1, Option.bind_some]
    unfold fX4_mayBy_b36
    simp only [nI_1, hI.1, or0]
    by_cases hc2 : nI (g_ts σ (nI c) l t) = σ 11 2
    · rw [g_cb, if_pos hc2] at hi
      rw [if_pos hc2]
      exact hi
    · rw [g_cb, if_neg hc2] at hi
      rw [if_neg hc2]
      exact hi
theorem my_m {σ : Sto} (hI : g_Sa σ) {l t : Int32} (l0 : 0 ≤ l) (l1 : l ≤ 1) (t0 : 2 ≤ t) (t1 : t ≤ 5) : fX4_mayBy l t σ = some (g_cy σ l t, σ) := my_l hI l0 l1 t0 t1 24 300 0 (by decide) (by decide)
def g_ck (σ : Sto) (k : Nat) : Int32 := g_cy σ (nI (k / 4)) (nI (2 + k % 4))
def g_or (f : Nat → Int32) : Nat → Int32
  | 0 => 0
  | k + 1 => g_or f k ||| f k
def g_ct (f : Nat → Int32) : Nat → Nat
  | 0 => 0
  | k + 1 => g_ct f k + if f k = 0 then 0 else 1
theorem ma_in {σ : Sto} (hI : g_Sa σ) (k45 : Int32 → Int32 → Sto → Option (Int32 × Sto)) (l : Nat) : ∀ j n t k, j < n → t + j = 6 → 2 ≤ t → k = 4 * l + (t - 2) → fX3_may_l53 k45 n (g_or (g_ck σ) k) (nI l) (nI t) σ = k45 (g_or (g_ck σ) (k + j)) (nI (l + 1)) σ := by
  intro j
  induction j with
  | zero =>
    intro n t k hn ht t2 hk
    obtain ⟨n, rfl⟩ : ∃ q, n = q + 1 := ⟨n - 1, by omega⟩
    have : t = 6 := by omega
    subst this
    rw [fX3_may_l53, if_pos (show (5 : Int32) < nI 6 by decide), nI_1]
    rfl
  | succ j ih =>
    intro n t k hn ht t2 hk
    obtain ⟨n, rfl⟩ : ∃ q, n = q + 1 := ⟨n - 1, by omega⟩
    have hi := ih n (t + 1) (k + 1) (by omega) (by omega) (by omega) (by omega)
    have e1 : g_cy σ (nI l) (nI t) = g_ck σ k := by
      unfold g_ck
      rw [show k / 4 = l by omega, show 2 + k % 4 = t by omega]
    rw [fX3_may_l53, if_neg (show ¬ (5 : Int32) < nI t from nI_nlt (a := 5) (by omega) (by decide)), cy_c hI, Option.bind_some, e1, nI_1]
    rw [g_or, show k + 1 + j = k + (j + 1) by omega] at hi
    exact hi
theorem ma_c {σ : Sto} (hI : g_Sa σ) : fX3_may_l45 300 0 0 σ = some (g_or (g_ck σ) 8, σ) := by
  have e1 := ma_in hI (fun a0 a1 s => fX3_may_l45 299 a0 a1 s) 0 4 300 2 0 (by decide) (by decide) (by decide) (by decide)
  have e2 := ma_in hI (fun a0 a1 s => fX3_may_l45 298 a0 a1 s) 1 4 300 2 4 (by decide) (by decide) (by decide) (by decide)
  rw [show 0 + 4 = 4 from rfl, show 0 + 1 = 1 from rfl] at e1
  rw [show 4 + 4 = 8 from rfl, show 1 + 1 = 2 from rfl] at e2
  have z0 : (0 : Int32) = nI 0 := rfl
  have z2 : (2 : Int32) = nI 2 := rfl
  have g0 : g_or (g_ck σ) 0 = nI 0 := rfl
  rw [g0] at e1
  rw [fX3_may_l45, z0, if_neg (show ¬ (1 : Int32) < nI 0 by decide), z2, e1, fX3_may_l45, if_neg (show ¬ (1 : Int32) < nI 1 by decide), z2, e2, fX3_may_l45, if_pos (show (1 : Int32) < nI 2 by decide)]
theorem k4_in {k : Nat} (hk : k < 8) : (0 : Int32) ≤ nI (k / 4) ∧ nI (k / 4) ≤ 1 ∧ (2 : Int32) ≤ nI (2 + k % 4) ∧ nI (2 + k % 4) ≤ 5 := ⟨nI_pos' (by omega), nI_le (b := 1) (by omega) (by decide), nI_le (a := 2) (by omega) (by omega), nI_le (b := 5) (by omega) (by decide)⟩
theorem k4_eq {k : Nat} (hk : k < 8) : nI k / 4 = nI (k / 4) ∧ 2 + irm (nI k) 4 = nI (2 + k % 4) := by
  refine ⟨pk_div (d := 4) (by omega) (by decide) (by decide), ?_⟩
  have e : irm (nI k) 4 = nI (k % 4) := irm_nI (d := 4) (by omega) (by decide) (by decide)
  have z2 : (2 : Int32) = nI 2 := rfl
  rw [e, z2, nI_add]
theorem ma_m {σ : Sto} (hI : g_Sa σ) : ∀ m n k, m < n → k + m = 8 → fX4_may_l41 n (g_or (g_ck σ) k) (nI k) σ = some (g_or (g_ck σ) 8, σ) := by
  intro m
  induction m with
  | zero =>
    intro n k hn hk
    obtain ⟨n, rfl⟩ : ∃ q, n = q + 1 := ⟨n - 1, by omega⟩
    have : k = 8 := by omega
    subst this
    rw [fX4_may_l41, if_pos (show (8 : Int32) ≤ nI 8 by decide)]
  | succ m ih =>
    intro n k hn hk
    obtain ⟨n, rfl⟩ : ∃ q, n = q + 1 := ⟨n - 1, by omega⟩
    have hi := ih n (k + 1) (by omega) (by omega)
    have h4 := k4_in (k := k) (by omega)
    have e4 := k4_eq (k := k) (by omega)
    rw [fX4_may_l41, if_neg (show ¬ (8 : Int32) ≤ nI (k) from nI_ge (b := 8) (by omega) (by decide)), e4.1, e4.2, my_m hI h4.1 h4.2.1 h4.2.2.1 h4.2.2.2, Option.bind_some, nI_1]
    exact hi
theorem hm_in {σ : Sto} (hI : g_Sa σ) (k4 : Int32 → Int32 → Sto → Option (Int32 × Sto)) (l : Nat) : ∀ j n t k, j < n → t + j = 6 → 2 ≤ t → k = 4 * l + (t - 2) → fX3_heMany_l11 k4 n (nI (g_ct (g_ck σ) k)) (nI l) (nI t) σ = k4 (nI (g_ct (g_ck σ) (k + j))) (nI (l + 1)) σ := by
  intro j
  induction j with
  | zero =>
    intro n t k hn ht t2 hk
    obtain ⟨n, rfl⟩ : ∃ q, n = q + 1 := ⟨n - 1, by omega⟩
    have : t = 6 := by omega
    subst this
    rw [fX3_heMany_l11, if_pos (show (5 : Int32) < nI 6 by decide), nI_1]
    rfl
  | succ j ih =>
    intro n t k hn ht t2 hk
    obtain ⟨n, rfl⟩ : ∃ q, n = q + 1 := ⟨n - 1, by omega⟩
    have hi := ih n (t + 1) (k + 1) (by omega) (by omega) (by omega) (by omega)
    have e1 : g_cy σ (nI l) (nI t) = g_ck σ k := by
      unfold g_ck
      rw [show k / 4 = l by omega, show 2 + k % 4 = t by omega]
    rw [fX3_heMany_l11, if_neg (show ¬ (5 : Int32) < nI t from nI_nlt (a := 5) (by omega) (by decide)), cy_c hI, Option.bind_some, e1]
    unfold fX3_heMany_b31
    simp only [nI_1]
    rw [show k + 1 + j = k + (j + 1) by omega] at hi
    by_cases h0 : g_ck σ k = 0
    · have e : g_ct (g_ck σ) (k + 1) = g_ct (g_ck σ) k := by rw [g_ct, if_pos h0, Nat.add_zero]
      rw [e] at hi
      rw [if_pos h0]
      exact hi
    · have e : g_ct (g_ck σ) (k + 1) = g_ct (g_ck σ) k + 1 := by rw [g_ct, if_neg h0]
      rw [e] at hi
      rw [if_neg h0]
      exact hi
theorem hm_c {σ : Sto} (hI : g_Sa σ) : fX3_heMany_l4 300 0 0 σ = some (nI (g_ct (g_ck σ) 8), σ) := by
  have e1 := hm_in hI (fun a0 a1 s => fX3_heMany_l4 299 a0 a1 s) 0 4 300 2 0 (by decide) (by decide) (by decide) (by decide)
  have e2 := hm_in hI (fun a0 a1 s => fX3_heMany_l4 298 a0 a1 s) 1 4 300 2 4 (by decide) (by decide) (by decide) (by decide)
  rw [show 0 + 4 = 4 from rfl, show 0 + 1 = 1 from rfl] at e1
  rw [show 4 + 4 = 8 from rfl, show 1 + 1 = 2 from rfl] at e2
  have z0 : (0 : Int32) = nI 0 := rfl
  have z2 : (2 : Int32) = nI 2 := rfl
  have g0 : g_ct (g_ck σ) 0 = 0 := rfl
  rw [g0] at e1
  rw [fX3_heMany_l4, z0, if_neg (show ¬ (1 : Int32) < nI 0 by decide), z2, e1, fX3_heMany_l4, if_neg (show ¬ (1 : Int32) < nI 1 by decide), z2, e2, fX3_heMany_l4, if_pos (show (1 : Int32) < nI 2 by decide)]
theorem hm_m {σ : Sto} (hI : g_Sa σ) : ∀ m n k, m < n → k + m = 8 → fX4_heMany_l4 n (nI (g_ct (g_ck σ) k)) (nI k) σ = some (nI (g_ct (g_ck σ) 8), σ) := by
  intro m
  induction m with
  | zero =>
    intro n k hn hk
    obtain ⟨n, rfl⟩ : ∃ q, n = q + 1 := ⟨n - 1, by omega⟩
    have : k = 8 := by omega
    subst this
    rw [fX4_heMany_l4, if_pos (show (8 : Int32) ≤ nI 8 by decide)]
  | succ m ih =>
    intro n k hn hk
    obtain ⟨n, rfl⟩ : ∃ q, n = q + 1 := ⟨n - 1, by omega⟩
    have hi := ih n (k + 1) (by omega) (by omega)
    have h4 := k4_in (k := k) (by omega)
    have e4 := k4_eq (k := k) (by omega)
    rw [fX4_heMany_l4, if_neg (show ¬ (8 : Int32) ≤ nI (k) from nI_ge (b := 8) (by omega) (by decide)), e4.1, e4.2, my_m hI h4.1 h4.2.1 h4.2.2.1 h4.2.2.2, Option.bind_some]
    unfold fX4_heMany_b31
    simp only [nI_1, int_0]
    have ec : g_cy σ (nI (k / 4)) (nI (2 + k % 4)) = g_ck σ k := rfl
    rw [ec]
    by_cases h0 : g_ck σ k = 0
    · have e : g_ct (g_ck σ) (k + 1) = g_ct (g_ck σ) k := by rw [g_ct, if_pos h0, Nat.add_zero]
      rw [e] at hi
      rw [if_pos h0]
      exact hi
    · have e : g_ct (g_ck σ) (k + 1) = g_ct (g_ck σ) k + 1 := by rw [g_ct, if_neg h0]
      rw [e] at hi
      rw [if_neg h0]
      exact hi
theorem In_Sa {σ : Sto} (hI : g_In σ) : g_Sa σ := hI.2.2.2.2.2.2.2.1
theorem ok_same {α : Type} {f g : Sto → Option (α × Sto)} (v : Sto → α) (hf : ∀ σ, g_In σ → f σ = some (v σ, σ)) (hg : ∀ σ, g_In σ → g σ = some (v σ, σ)) : g_Ok f g := fun σ hI => ⟨v σ, σ, σ, hf σ hI, hg σ hI, hI⟩
theorem ok_heMany : g_Ok fX3_heMany fX4_heMany := by
  refine ok_same (fun σ => nI (g_ct (g_ck σ) 8)) (fun σ hI => ?_) (fun σ hI => ?_)
  · unfold fX3_heMany
    exact hm_c (In_Sa hI)
  · unfold fX4_heMany
    have e := hm_m (In_Sa hI) 8 300 0 (by decide) (by decide)
    have g0 : g_ct (g_ck σ) 0 = 0 := rfl
    rw [g0, nI_0] at e
    exact e
theorem he_rng {σ : Sto} (hI : g_In σ) : (0 ≤ σ 1 5 ∧ σ 1 5 ≤ 1) ∧ (2 ≤ σ 1 7 ∧ σ 1 7 ≤ 5) := by
  obtain ⟨-, -, -, -, l, -, t, -, -⟩ := hI.1
  exact ⟨l, t⟩
theorem he_M {σ : Sto} (hI : g_In σ) : σ 20 0 = σ 1 5 ∧ σ 20 2 = σ 1 7 := ⟨hI.2.2.1.2.2.2.2.2.1, hI.2.2.1.2.2.2.2.2.2.2.1⟩
theorem ok_may (a : Int32) : g_Ok (fX3_may a) (fX4_may a) := by
  by_cases h : 0 ≤ a ∧ a < 2
  · have h5 : a ≤ 1 := n_lt 2 1 (by decide) (by decide) h (by decide)
    have i0 : inb 0 4 = true := by decide
    have i2 : inb 2 4 = true := by decide
    have c0 : (0 : Int32).toNatClampNeg = 0 := by decide
    have c2 : (2 : Int32).toNatClampNeg = 2 := by decide
    by_cases h0 : a = 0
    · refine ok_same (fun σ => g_cy σ (σ 1 5) (σ 1 7)) (fun σ hI => ?_) (fun σ hI => ?_)
      · unfold fX3_may
        rw [isNot_in _ h.1 h.2, Option.bind_some, if_pos rfl, if_pos h0, cy_c (In_Sa hI)]
        rfl
      · have hr := he_rng hI
        have hm := he_M hI
        unfold fX4_may
        rw [isIn_in _ h.1 h5, Option.bind_some, if_neg (show ¬ (1 : Int32) = 0 by decide), if_pos h0, if_pos i0, if_pos i2, c0, c2]
        dsimp only
        rw [hm.1, hm.2, my_m (In_Sa hI) hr.1.1 hr.1.2 hr.2.1 hr.2.2]
        rfl
    · refine ok_same (fun σ => g_or (g_ck σ) 8) (fun σ hI => ?_) (fun σ hI => ?_)
      · unfold fX3_may
        rw [isNot_in _ h.1 h.2, Option.bind_some, if_pos rfl, if_neg h0]
        exact ma_c (In_Sa hI)
      · have e := ma_m (In_Sa hI) 8 300 0 (by decide) (by decide)
        have g0 : g_or (g_ck σ) 0 = 0 := rfl
        rw [g0, nI_0] at e
        unfold fX4_may
        rw [isIn_in _ h.1 h5, Option.bind_some, if_neg (show ¬ (1 : Int32) = 0 by decide), if_neg h0]
        exact e
  · intro σ hI
    have h2 : ¬ (0 ≤ a ∧ a ≤ 1) := by grind
    exact ⟨-2, g_rf 2 σ, g_rm 2 (g_rf 2 σ), by simp only [fX3_may, isNot_out _ h, Option.bind_some, eq_self, if_true, if_false, i10, i01, m10, m20, m40, m60, m90, refuse_2], by simp only [fX4_may, isIn_out _ h2, Option.bind_some, eq_self, if_true, if_false, i10, i01, m10, m20, m40, m60, m90, no_2], In_rf 2 hI⟩
-- TAUGHT
def g_tk (σ : Sto) (k : Nat) : Nat := g_ts σ (σ 1 2) (nI (k / 4)) (nI (2 + k % 4))
def g_tc (k : Nat) : Nat := 10 * (k / 4) + (2 + k % 4)
theorem tg_step {σ : Sto} (hI : g_Sa σ) (k25 : Int32 → Int32 → Int32 → Sto → Option (Int32 × Sto)) (b m : Int32) (l t n : Nat) (h2 : 2 ≤ t) (h5 : t ≤ 5) : fX3_taught_l33 k25 (n + 1) b m (nI l) (nI t) σ = if nI (g_tk σ (4 * l + (t - 2))) ≤ m then fX3_taught_l33 k25 n b m (nI l) (nI (t + 1)) σ else fX3_taught_l33 k25 n (nI (g_tc (4 * l + (t - 2)))) (nI (g_tk σ (4 * l + (t - 2)))) (nI l) (nI (t + 1)) σ := by
  have e1 : g_ts σ (σ 1 2) (nI l) (nI t) = g_tk σ (4 * l + (t - 2)) := by
    unfold g_tk
    rw [show (4 * l + (t - 2)) / 4 = l by omega, show 2 + (4 * l + (t - 2)) % 4 = t by omega]
  have e4 : (10 : Int32) * nI l + nI t = nI (g_tc (4 * l + (t - 2))) := by
    have : (10 : Int32) = nI 10 := rfl
    rw [this, pk_mul, nI_add]
    unfold g_tc
    congr 1
    omega
  rw [fX3_taught_l33, if_neg (show ¬ (5 : Int32) < nI t from nI_nlt (a := 5) h5 (by decide)), tr_c hI, Option.bind_some]
  unfold fX3_taught_b75
  simp only [e1, e4, nI_1]
theorem tg_in {σ : Sto} (hI : g_Sa σ) (k25 : Int32 → Int32 → Int32 → Sto → Option (Int32 × Sto)) (l : Nat) (hl : l < 2) : ∀ j n t k, j < n → t + j = 6 → 2 ≤ t → k + 1 = 4 * l + (t - 2) → fX3_taught_l33 k25 n (nI (g_tc (g_mx (g_tk σ) k).1)) (nI (g_mx (g_tk σ) k).2) (nI l) (nI t) σ = k25 (nI (g_tc (g_mx (g_tk σ) (k + j)).1)) (nI (g_mx (g_tk σ) (k + j)).2) (nI (l + 1)) σ := by
  intro j
  induction j with
  | zero =>
    intro n t k hn ht t2 hk
    obtain ⟨n, rfl⟩ : ∃ q, n = q + 1 := ⟨n - 1, by omega⟩
    have : t = 6 := by omega
    subst this
    rw [fX3_taught_l33, if_pos (show (5 : Int32) < nI 6 by decide), nI_1]
    rfl
  | succ j ih =>
    intro n t k hn ht t2 hk
    obtain ⟨n, rfl⟩ : ∃ q, n = q + 1 := ⟨n - 1, by omega⟩
    have hi := ih n (t + 1) (k + 1) (by omega) (by omega) (by omega) (by omega)
    rw [show k + 1 + j = k + (j + 1) by omega] at hi
    have hts := fun k => ts_le hI (σ 1 2) (nI (k / 4)) (nI (2 + k % 4))
    have hle : g_tk σ (k + 1) ≤ 8 := hts (k + 1)
    have hmx := mx_le (f := g_tk σ) (K := 8) hts k
    rw [tg_step hI k25 _ _ l t n t2 (by omega), ← hk]
    by_cases hc : g_tk σ (k + 1) ≤ (g_mx (g_tk σ) k).2
    · rw [if_pos (nI_le hc (by omega))]
      have em : g_mx (g_tk σ) (k + 1) = g_mx (g_tk σ) k := by rw [g_mx, if_pos hc]
      rw [em] at hi
      exact hi
    · rw [if_neg (nI_ge (by omega) (by omega))]
      have em : g_mx (g_tk σ) (k + 1) = (k + 1, g_tk σ (k + 1)) := by rw [g_mx, if_neg hc]
      rw [em] at hi
      exact hi
theorem tg_c {σ : Sto} (hI : g_Sa σ) : fX3_taught_l25 300 0 (-1) 0 σ = some (nI (g_tc (g_mx (g_tk σ) 7).1), σ) := by
  have hts := fun k => ts_le hI (σ 1 2) (nI (k / 4)) (nI (2 + k % 4))
  have hle : g_tk σ 0 ≤ 8 := hts 0
  have e0 := tg_step hI (fun a0 a1 a2 s => fX3_taught_l25 299 a0 a1 a2 s) 0 (-1) 0 2 299 (by decide) (by decide)
  have hn1 : ¬ nI (g_tk σ 0) ≤ -1 := by
    have := nI_pos' (n := g_tk σ 0) (by omega)
    grind
  have a1 : nI (g_tc 0) = nI (g_tc (g_mx (g_tk σ) 0).1) := by simp [g_mx]
  have a2 : nI (g_tk σ 0) = nI (g_mx (g_tk σ) 0).2 := by simp [g_mx]
  rw [show 4 * 0 + (2 - 2) = 0 from rfl, if_neg hn1, a1, a2, show 2 + 1 = 3 from rfl, show 299 + 1 = 300 from rfl] at e0
  have e1 := tg_in hI (fun a0 a1 a2 s => fX3_taught_l25 299 a0 a1 a2 s) 0 (by decide) 3 299 3 0 (by decide) (by decide) (by decide) (by decide)
  have e2 := tg_in hI (fun a0 a1 a2 s => fX3_taught_l25 298 a0 a1 a2 s) 1 (by decide) 4 300 2 3 (by decide) (by decide) (by decide) (by decide)
  rw [show 0 + 3 = 3 from rfl, show 0 + 1 = 1 from rfl] at e1
  rw [show 3 + 4 = 7 from rfl, show 1 + 1 = 2 from rfl] at e2
  have z0 : (0 : Int32) = nI 0 := rfl
  have z2 : (2 : Int32) = nI 2 := rfl
  rw [z0] at e0
  rw [fX3_taught_l25, z0, if_neg (show ¬ (1 : Int32) < nI 0 by decide), z2, e0, e1, fX3_taught_l25, if_neg (show ¬ (1 : Int32) < nI 1 by decide), z2, e2, fX3_taught_l25, if_pos (show (1 : Int32) < nI 2 by decide)]
theorem tm_step {σ : Sto} (hI : g_In σ) (b m : Int32) (k n : Nat) (hk : k < 8) : fX4_taught_l23 (n + 1) b m (nI k) σ = if m < nI (g_tk σ k) then fX4_taught_l23 n (nI (g_tc k)) (nI (g_tk σ k)) (nI (k + 1)) σ else fX4_taught_l23 n b m (nI (k + 1)) σ := by
  have h4 := k4_in hk
  have e4 := k4_eq hk
  have hp : 0 ≤ σ 1 2 ∧ σ 1 2 ≤ 24 := hI.1.2.2.1
  have hm := hI.2.2.1.2.1
  have e5 : (((10 : Int32) * nI (k / 4)) + 2) + irm (nI k) 4 = nI (g_tc k) := by
    have e : irm (nI k) 4 = nI (k % 4) := irm_nI (d := 4) (by omega) (by decide) (by decide)
    have z2 : (2 : Int32) = nI 2 := rfl
    have z10 : (10 : Int32) = nI 10 := rfl
    rw [e, z2, z10, pk_mul, nI_add, nI_add, Nat.add_assoc]
    rfl
  have e6 : nI (g_ts σ (σ 1 2) (nI (k / 4)) (nI (2 + k % 4))) = nI (g_tk σ k) := rfl
  rw [fX4_taught_l23, if_neg (show ¬ (8 : Int32) ≤ nI (k) from nI_ge (b := 8) (by omega) (by decide)), e4.1, e4.2, hm, rb_m (In_Sa hI) hp.1 hp.2 h4.1 h4.2.1 h4.2.2.1 h4.2.2.2, Option.bind_some, e6]
  unfold fX4_taught_b72
  simp only [e5, nI_1]
theorem tm_l {σ : Sto} (hI : g_In σ) : ∀ m n k, m < n → k + 1 + m = 8 → fX4_taught_l23 n (nI (g_tc (g_mx (g_tk σ) k).1)) (nI (g_mx (g_tk σ) k).2) (nI (k + 1)) σ = some (nI (g_tc (g_mx (g_tk σ) 7).1), σ) := by
  intro m
  induction m with
  | zero =>
    intro n k hn hk
    obtain ⟨n, rfl⟩ : ∃ q, n = q + 1 := ⟨n - 1, by omega⟩
    have : k = 7 := by omega
    subst this
    rw [fX4_taught_l23, if_pos (show (8 : Int32) ≤ nI (7 + 1) by decide)]
  | succ m ih =>
    intro n k hn hk
    obtain ⟨n, rfl⟩ : ∃ q, n = q + 1 := ⟨n - 1, by omega⟩
    have hi := ih n (k + 1) (by omega) (by omega)
    have hts := fun k => ts_le (In_Sa hI) (σ 1 2) (nI (k / 4)) (nI (2 + k % 4))
    have hle : g_tk σ (k + 1) ≤ 8 := hts (k + 1)
    have hmx := mx_le (f := g_tk σ) (K := 8) hts k
    rw [tm_step hI _ _ (k + 1) n (by omega)]
    by_cases hc : g_tk σ (k + 1) ≤ (g_mx (g_tk σ) k).2
    · rw [if_neg (nI_nlt hc (by omega))]
      have em : g_mx (g_tk σ) (k + 1) = g_mx (g_tk σ) k := by rw [g_mx, if_pos hc]
      rw [em] at hi
      exact hi
    · rw [if_pos (nI_lt (by omega) (by omega))]
      have em : g_mx (g_tk σ) (k + 1) = (k + 1, g_tk σ (k + 1)) := by rw [g_mx, if_neg hc]
      rw [em] at hi
      exact hi
theorem tm_m {σ : Sto} (hI : g_In σ) : fX4_taught_l23 300 (-9) (-1) 0 σ = some (nI (g_tc (g_mx (g_tk σ) 7).1), σ) := by
  have hts := fun k => ts_le (In_Sa hI) (σ 1 2) (nI (k / 4)) (nI (2 + k % 4))
  have hle : g_tk σ 0 ≤ 8 := hts 0
  have e0 := tm_step hI (-9) (-1) 0 299 (by decide)
  have hn1 : (-1 : Int32) < nI (g_tk σ 0) := by
    have := nI_pos' (n := g_tk σ 0) (by omega)
    grind
  have a1 : nI (g_tc 0) = nI (g_tc (g_mx (g_tk σ) 0).1) := by simp [g_mx]
  have a2 : nI (g_tk σ 0) = nI (g_mx (g_tk σ) 0).2 := by simp [g_mx]
  have e1 := tm_l hI 7 299 0 (by decide) (by decide)
  rw [if_pos hn1, a1, a2, show 299 + 1 = 300 from rfl, nI_0, e1] at e0
  exact e0
theorem ok_taught : g_Ok fX3_taught fX4_taught := by
  intro σ hI
  have hm := hI.2.2.1.2.1
  by_cases h : σ 1 2 = 24
  · have t : g_rf 3 σ 17 4 = 24 := by unfold g_rf; rw [upS_ne (by decide), hm, h]
    exact ⟨-3, g_rf 3 σ, g_rm 3 (g_rf 3 σ), by simp only [fX3_taught, h, Option.bind_some, eq_self, if_true, if_false, i10, i01, m10, m20, m40, m60, m90, refuse_3], by simp only [fX4_taught, t, Option.bind_some, eq_self, if_true, if_false, i10, i01, m10, m20, m40, m60, m90, no_3], In_rf 3 hI⟩
  · refine ⟨nI (g_tc (g_mx (g_tk σ) 7).1), σ, σ, ?_, ?_, hI⟩
    · unfold fX3_taught
      rw [if_neg h]
      exact tg_c (In_Sa hI)
    · unfold fX4_taught
      rw [hm, if_neg h]
      exact tm_m hI

