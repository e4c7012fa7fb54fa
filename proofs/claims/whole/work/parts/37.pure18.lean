/-! the pure part, 18: letters as a BACK: single letters, shapes -/
def g_lt (L : Nat → Int32) (M : Nat) (j : Nat) : Int32 := if j < M then L j else -1
theorem lt_eq (σ : Sto) {L : Nat → Int32} {M j : Nat} (hM : M ≤ 80) (h9 : σ 9 1 = nI M) (h10 : σ 10 = L) (hj : j < 2 ^ 31) : fX2_letterAt (nI j) σ = some (g_lt L M j, σ) := by
  unfold fX2_letterAt g_lt
  rw [if_neg (nI_pos hj), h9]
  by_cases h : j < M
  · rw [if_neg (nI_ge h (by omega)), if_neg (show ¬ (80 : Int32) ≤ nI j from nI_ge (b := 80) (by omega) (by decide)), if_pos (inb_nI (by omega) (by decide)), if_pos h, nI_clamp hj, h10]
  · rw [if_pos (nI_le (by omega) hj), if_neg h]
theorem nx_eq (τ : Sto) {L : Nat → Int32} {M j : Nat} (hM : M ≤ 80) (h11 : τ 17 11 = nI M) (h21 : τ 21 = L) (h12 : τ 17 12 = nI j) (hj : j < 2 ^ 31) : fX4_next τ = some (g_lt L M j, τ) := by
  unfold fX4_next g_lt
  rw [h11, h12]
  by_cases h : j < M
  · rw [if_neg (nI_ge h (by omega)), if_pos (inb_nI (by omega) (by decide)), if_pos h, nI_clamp hj, h21]
  · rw [if_pos (nI_le (by omega) hj), if_neg h]
def g_kx (v : Int32) : Int32 := if v = 105 then 0 else if v = 99 then 1 else if v = 104 then 2 else if v = 102 then 3 else if v = 115 then 4 else if v = 110 then 5 else -1
theorem kindOf_eq (v : Int32) (σ : Sto) : fX4_kindOf v σ = some (g_kx v, σ) := by
  unfold fX4_kindOf g_kx
  simp only [push]
  congr 2
  grind (splits := 60)
theorem kx_rng {v : Int32} (h : 0 ≤ g_kx v) : 0 ≤ g_kx v ∧ g_kx v ≤ 5 := by
  unfold g_kx at *
  grind
theorem ix_tab : ∀ n, n < 256 → i2cI (nI n) = nI n ∧ ((105 : Int32) = i2bI (nI n) ↔ nI n = 105) ∧ ((99 : Int32) = i2bI (nI n) ↔ nI n = 99) ∧ ((104 : Int32) = i2bI (nI n) ↔ nI n = 104) ∧ ((102 : Int32) = i2bI (nI n) ↔ nI n = 102) ∧ ((115 : Int32) = i2bI (nI n) ↔ nI n = 115) ∧ ((110 : Int32) = i2bI (nI n) ↔ nI n = 110) := by decide +kernel
theorem ixl (v : Int32) (σ : Sto) : fJ1_indexOfChar_4cfef_l7 5 300 6 v 0 σ = some (if (105 : Int32) = v then 0 else if (99 : Int32) = v then 1 else if (104 : Int32) = v then 2 else if (102 : Int32) = v then 3 else if (115 : Int32) = v then 4 else if (110 : Int32) = v then 5 else -1, σ) := by
  have s (k : Int32) (i : Nat) (c : Int32) (n : Nat) (hk : inb k (sLen.getD 5 0) = true) (h6 : ¬ (6 : Int32) ≤ k) (hi : k.toNatClampNeg = i) (hc : (sByt.getD 5 []).getD i 0 = c) : fJ1_indexOfChar_4cfef_l7 5 (n + 1) 6 v k σ = if c = v then some (k, σ) else fJ1_indexOfChar_4cfef_l7 5 n 6 v (k + 1) σ := by
    rw [fJ1_indexOfChar_4cfef_l7, if_neg h6, if_pos hk, hi, hc]
  rw [s 0 0 105 299 (by decide) (by decide) (by decide) (by decide), show (0 : Int32) + 1 = 1 by decide, s 1 1 99 298 (by decide) (by decide) (by decide) (by decide), show (1 : Int32) + 1 = 2 by decide, s 2 2 104 297 (by decide) (by decide) (by decide) (by decide), show (2 : Int32) + 1 = 3 by decide, s 3 3 102 296 (by decide) (by decide) (by decide) (by decide), show (3 : Int32) + 1 = 4 by decide, s 4 4 115 295 (by decide) (by decide) (by decide) (by decide), show (4 : Int32) + 1 = 5 by decide, s 5 5 110 294 (by decide) (by decide) (by decide) (by decide), show (5 : Int32) + 1 = 6 by decide, fJ1_indexOfChar_4cfef_l7, if_pos (show (6 : Int32) ≤ 6 by decide)]
  simp only [push]
theorem chkB_0 (σ : Sto) : chkB ((0 : Int32), σ) = some (0, σ) := by
  unfold chkB
  exact if_pos rfl
theorem chkZ_0 (σ : Sto) : chkZ ((0 : Int32), σ) = some (0, σ) := rfl
theorem chkZ_1 (σ : Sto) : chkZ ((1 : Int32), σ) = some (1, σ) := rfl
theorem chkZ_b (b : Bool) (σ : Sto) : chkZ ((if b = true then (1 : Int32) else 0), σ) = some (if b = true then 1 else 0, σ) := by
  cases b <;> rfl
theorem latin_eq (i : Nat) (σ : Sto) : fJ0_isLatin1_aae02 i σ = some (1, σ) := by
  unfold fJ0_isLatin1_aae02 fJ0_isLatin1_aae02_e
  rw [if_neg (show ¬ (1 : Int32) = 0 by decide), if_pos rfl]
  rfl
theorem coder_eq (i : Nat) (σ : Sto) : fJ0_coder_7d493 i σ = some (0, σ) := by
  unfold fJ0_coder_7d493 fJ0_coder_7d493_e
  rw [if_neg (show ¬ (1 : Int32) = 0 by decide), Option.bind_some, chkB_0]
def g_ln (s : Nat) : Nat := sLen.getD s 0
theorem shr0 : ∀ s, s < 6 → ishr5 (Int32.ofNat (sLen.getD s 0)) 0 = nI (g_ln s) := by decide +kernel
theorem length_eq {s : Nat} (hs : s < 6) (σ : Sto) : fJ0_length_8abf5 s σ = some (nI (g_ln s), σ) := by
  unfold fJ0_length_8abf5
  rw [coder_eq, Option.bind_some]
  dsimp only
  rw [shr0 s hs]
theorem index_eq {n : Nat} (hn : n < 256) (σ : Sto) : fJ0_indexOf_0f7a4 5 (i2cI (nI n)) σ = some (g_kx (nI n), σ) := by
  have t := ix_tab n hn
  have hc : fJ1_canEncode_9a6ad (nI n) σ = some (1, σ) := by
    unfold fJ1_canEncode_9a6ad fJ1_canEncode_9a6ad_e
    rw [if_neg (nI_pos (by omega)), if_neg (show ¬ (255 : Int32) < nI n from nI_nlt (a := 255) (by omega) (by decide))]
    rfl
  unfold fJ0_indexOf_0f7a4 fJ0_indexOf_7cf53 fJ1_indexOf_4cfef fJ1_indexOfChar_4cfef
  rw [t.1, latin_eq, Option.bind_some, if_neg (show ¬ (1 : Int32) = 0 by decide), length_eq (by decide), Option.bind_some, hc, Option.bind_some, if_neg (show ¬ (1 : Int32) = 0 by decide)]
  have e1 : mxI 0 0 = 0 := by decide
  have e2 : mnI (nI (g_ln 5)) (Int32.ofNat (sLen.getD 5 0)) = 6 := by decide
  simp only [e1, e2]
  rw [if_pos (show (0 : Int32) < 6 by decide), ixl, Option.bind_some]
  simp only [t.2.1, t.2.2.1, t.2.2.2.1, t.2.2.2.2.1, t.2.2.2.2.2.1, t.2.2.2.2.2.2, Option.bind_some]
  rfl
def g_pc (s j : Nat) : Int32 := (sByt.getD s []).getD j 0
def g_ft (c x : Int32) : Bool := if c = 107 then decide (0 ≤ g_kx x) else if c = 100 then decide (48 ≤ x ∧ x ≤ 57) else decide (x = c)
theorem fits_eq {c x : Int32} (hx : x = -1 ∨ (0 ≤ x ∧ x ≤ 255)) (σ : Sto) : fX2_fits c x σ = some (if g_ft c x = true then 1 else 0, σ) := by
  unfold fX2_fits fX2_fits_e g_ft
  by_cases h1 : c = 100
  · subst h1
    rw [if_pos rfl, if_neg (show ¬ (100 : Int32) = 107 by decide), if_pos rfl]
    by_cases h48 : x < 48
    · have hn : ¬ (48 ≤ x ∧ x ≤ 57) := fun h => by grind
      rw [if_pos h48, decide_eq_false hn]
      rfl
    · by_cases h57 : 57 < x
      · have hn : ¬ (48 ≤ x ∧ x ≤ 57) := fun h => by grind
        rw [if_neg h48, if_pos h57, decide_eq_false hn]
        rfl
      · have hn : 48 ≤ x ∧ x ≤ 57 := by grind
        rw [if_neg h48, if_neg h57, decide_eq_true hn]
        rfl
  · rw [if_neg h1]
    by_cases h2 : c = 107
    · subst h2
      rw [if_pos rfl, if_pos rfl]
      rcases hx with rfl | hx
      · rfl
      · obtain ⟨n, hn, rfl⟩ := i32_nat 255 255 hx.1 hx.2 (by decide)
        rw [if_neg (nI_pos (by omega)), index_eq (by omega), Option.bind_some]
        by_cases hk : 0 ≤ g_kx (nI n)
        · have hk' : ¬ g_kx (nI n) < 0 := by grind
          simp only [if_neg hk', decide_eq_true hk]
          rfl
        · have hk' : g_kx (nI n) < 0 := by grind
          simp only [if_pos hk', decide_eq_false hk]
          rfl
    · rw [if_neg h2, if_neg h2, if_neg h1]
      by_cases h3 : x = c
      · rw [if_pos h3, decide_eq_true h3]
        rfl
      · rw [if_neg h3, decide_eq_false h3]
        rfl
def g_sh (v : Int32) : Nat := if v = 105 then 0 else if v = 104 ∨ v = 111 then 1 else if v = 109 then 2 else if v = 115 then 3 else 4
theorem shape_eq (v : Int32) (σ : Sto) : fX2_shapeOf v σ = some (g_sh v, σ) := by
  unfold fX2_shapeOf g_sh
  simp only [push]
  congr 2
  grind (splits := 60)
theorem sh_lt (v : Int32) : g_sh v < 5 := by
  unfold g_sh
  grind
theorem empty_eq {s : Nat} (hs : s < 5) (σ : Sto) : fJ0_isEmpty_aae02 s σ = some (if s = 4 then 1 else 0, σ) := by
  have : s = 0 ∨ s = 1 ∨ s = 2 ∨ s = 3 ∨ s = 4 := by omega
  unfold fJ0_isEmpty_aae02 fJ0_isEmpty_aae02_e
  rcases this with rfl | rfl | rfl | rfl | rfl <;> rfl
theorem ln_le : ∀ s, s < 4 → 2 ≤ g_ln s ∧ g_ln s ≤ 4 := by decide
theorem ch_tab : ∀ s, s < 4 → ∀ j, j < 4 → j < g_ln s → i2cI ((g_pc s j) &&& 255) = g_pc s j := by decide +kernel
theorem nar_c : ∀ s, s < 4 → ∀ j, j < 4 → j < g_ln s → narrow .char (.int (g_pc s j)) = .int (g_pc s j) := by
  intro s hs j hj hl
  rw [← ch_tab s hs j hj hl]
  exact pk_nc _
theorem charAt_eq {s j : Nat} (hs : s < 4) (hj : j < g_ln s) (σ : Sto) : fJ0_charAt_5068e s (nI j) σ = some (g_pc s j, σ) := by
  have hl := ln_le s hs
  have hn := nar_c s hs j (by omega) hj
  have ck : chkC (g_pc s j, σ) = some (g_pc s j, σ) := by
    unfold chkC
    exact if_pos hn
  have hlt : nI j < Int32.ofNat (sLen.getD s 0) := nI_lt (a := j) (b := sLen.getD s 0) hj (by unfold g_ln at hl; omega)
  have hib : inb (nI j) (sLen.getD s 0) = true := inb_nI (N := sLen.getD s 0) hj (by unfold g_ln at hl; omega)
  unfold fJ0_charAt_5068e fJ0_charAt_5068e_e fJ1_charAt_3b067 fJ1_charAt_3b067_e fJ0_checkIndex_df160 fJ3_checkIndex_8e157
  rw [latin_eq, Option.bind_some, if_neg (show ¬ (1 : Int32) = 0 by decide), if_neg (nI_pos (by omega)), if_pos hlt, Option.bind_some, Option.bind_some, if_pos hib, nI_clamp (by omega), Option.bind_some]
  have e : i2cI (((sByt.getD s []).getD j 0) &&& 255) = g_pc s j := ch_tab s hs j (by omega) hj
  rw [e, ck, Option.bind_some, Option.bind_some]
  exact ck
/-! the shape of one STATEMENT behind its first letter -/
def g_wk (lt : Nat → Int32) (s : Nat) : Nat → Nat → Nat → Nat × Bool
  | 0, _, q => (q, true)
  | m + 1, j, q => if g_ft (g_pc s j) (lt q) = true then g_wk lt s m (j + 1) (q + 1) else (q, false)
theorem wk_le (lt : Nat → Int32) (s : Nat) : ∀ m j q, q ≤ (g_wk lt s m j q).1 ∧ (g_wk lt s m j q).1 ≤ q + m ∧ ((g_wk lt s m j q).2 = true → (g_wk lt s m j q).1 = q + m) := by
  intro m
  induction m with
  | zero => exact fun j q => ⟨Nat.le_refl _, Nat.le_refl _, fun _ => rfl⟩
  | succ m ih =>
    intro j q
    unfold g_wk
    split
    · have := ih (j + 1) (q + 1)
      refine ⟨by omega, by omega, fun h => ?_⟩
      have := this.2.2 h
      omega
    · exact ⟨Nat.le_refl _, by dsimp only; omega, fun h => by cases h⟩
theorem lt_rng {L : Nat → Int32} {M : Nat} (hL : ∀ j, 0 ≤ L j ∧ L j ≤ 255) (j : Nat) : g_lt L M j = -1 ∨ (0 ≤ g_lt L M j ∧ g_lt L M j ≤ 255) := by
  unfold g_lt
  split
  · exact Or.inr (hL j)
  · exact Or.inl rfl
theorem fw_l48 (σ : Sto) {L : Nat → Int32} {M : Nat} (hM : M ≤ 80) (h9 : σ 9 1 = nI M) (h10 : σ 10 = L) (hL : ∀ j, 0 ≤ L j ∧ L j ≤ 255) (k13 : Int32 → Int32 → Sto → Option (Int32 × Sto)) {s : Nat} (hs : s < 4) (i : Nat) : ∀ m n j a, m < n → j + m = g_ln s → a + m < 2 ^ 30 → fX2_firstWrong_l48 k13 n (nI a) (nI i) s (nI j) σ = if (g_wk (g_lt L M) s m j (a + 1)).2 = true then k13 (nI (g_wk (g_lt L M) s m j (a + 1)).1) (nI (i + 1)) σ else some (nI (g_wk (g_lt L M) s m j (a + 1)).1, σ) := by
  have hl := ln_le s hs
  intro m
  induction m with
  | zero =>
    intro n j a hn hj ha
    obtain ⟨n, rfl⟩ : ∃ q, n = q + 1 := ⟨n - 1, by omega⟩
    rw [fX2_firstWrong_l48, if_pos (by omega), length_eq (by omega), Option.bind_some, if_pos (nI_le (by omega) (by omega)), nI_1, nI_1]
    rfl
  | succ m ih =>
    intro n j a hn hj ha
    obtain ⟨n, rfl⟩ : ∃ q, n = q + 1 := ⟨n - 1, by omega⟩
    rw [fX2_firstWrong_l48, if_pos (by omega), length_eq (by omega), Option.bind_some, if_neg (nI_ge (by omega) (by omega)), if_pos (by omega), charAt_eq hs (by omega), Option.bind_some, nI_1, lt_eq σ hM h9 h10 (by omega), Option.bind_some, fits_eq (lt_rng hL _), Option.bind_some, g_wk]
    by_cases hf : g_ft (g_pc s j) (g_lt L M (a + 1)) = true
    · rw [if_pos hf, if_pos hf, if_neg (show ¬ (1 : Int32) = 0 by decide), nI_1]
      exact ih n (j + 1) (a + 1) (by omega) (by omega) (by omega)
    · rw [if_neg hf, if_neg hf, if_pos rfl]
      rfl
/-! all STATEMENTS -/
def g_pz (lt : Nat → Int32) (M : Nat) : Nat → Nat → Nat × Bool
  | 0, p => (p, true)
  | f + 1, p => if M ≤ p then (p, true) else if g_sh (lt p) = 4 then (p, false) else if (g_wk lt (g_sh (lt p)) (g_ln (g_sh (lt p))) 0 (p + 1)).2 = true then g_pz lt M f (g_wk lt (g_sh (lt p)) (g_ln (g_sh (lt p))) 0 (p + 1)).1 else g_wk lt (g_sh (lt p)) (g_ln (g_sh (lt p))) 0 (p + 1)
theorem fw_l13 (σ : Sto) {L : Nat → Int32} {M : Nat} (hM : M ≤ 80) (h9 : σ 9 1 = nI M) (h10 : σ 10 = L) (hL : ∀ j, 0 ≤ L j ∧ L j ≤ 255) : ∀ f n i p, f < n → i + f = 30 → 3 * i ≤ p → p < 2 ^ 29 → fX2_firstWrong_l13 n (nI p) (nI i) σ = some (if (g_pz (g_lt L M) M f p).2 = true then -1 else nI (g_pz (g_lt L M) M f p).1, σ) := by
  intro f
  induction f with
  | zero =>
    intro n i p hn hi hp hp2
    obtain ⟨n, rfl⟩ : ∃ q, n = q + 1 := ⟨n - 1, by omega⟩
    rw [fX2_firstWrong_l13, if_neg (show ¬ (80 : Int32) ≤ nI i from nI_ge (b := 80) (by omega) (by decide)), h9, if_pos (nI_le (by omega) (by omega))]
    rfl
  | succ f ih =>
    intro n i p hn hi hp hp2
    obtain ⟨n, rfl⟩ : ∃ q, n = q + 1 := ⟨n - 1, by omega⟩
    rw [fX2_firstWrong_l13, if_neg (show ¬ (80 : Int32) ≤ nI i from nI_ge (b := 80) (by omega) (by decide)), h9, g_pz]
    by_cases hpM : M ≤ p
    · rw [if_pos (nI_le hpM (by omega)), if_pos hpM]
      rfl
    · have h5 := sh_lt (g_lt L M p)
      rw [if_neg (nI_ge (by omega) (by omega)), if_neg hpM, lt_eq σ hM h9 h10 (by omega), Option.bind_some, shape_eq, Option.bind_some, if_pos (by dsimp only; omega), empty_eq h5, Option.bind_some]
      by_cases h4 : g_sh (g_lt L M p) = 4
      · rw [if_pos h4, if_pos h4, if_neg (show ¬ (1 : Int32) = 0 by decide)]
        rfl
      · have hs : g_sh (g_lt L M p) < 4 := by omega
        have hl := ln_le _ hs
        have e := fw_l48 σ hM h9 h10 hL (fun a0 a1 s => fX2_firstWrong_l13 n a0 a1 s) hs i (g_ln (g_sh (g_lt L M p))) 300 0 p (by omega) (by omega) (by omega)
        have hw := wk_le (g_lt L M) (g_sh (g_lt L M p)) (g_ln (g_sh (g_lt L M p))) 0 (p + 1)
        rw [if_neg h4, if_neg h4, if_pos rfl]
        rw [nI_0] at e
        refine e.trans ?_
        by_cases hg : (g_wk (g_lt L M) (g_sh (g_lt L M p)) (g_ln (g_sh (g_lt L M p))) 0 (p + 1)).2 = true
        · rw [if_pos hg, if_pos hg]
          have := hw.2.2 hg
          exact ih n (i + 1) _ (by omega) (by omega) (by omega) (by omega)
        · rw [if_neg hg, if_neg hg, if_neg hg]
theorem fw_eq (σ : Sto) {L : Nat → Int32} {M : Nat} (hM : M ≤ 80) (h9 : σ 9 1 = nI M) (h10 : σ 10 = L) (hL : ∀ j, 0 ≤ L j ∧ L j ≤ 255) : fX2_firstWrong σ = some (if M = 0 then 0 else if (g_pz (g_lt L M) M 30 0).2 = true then -1 else nI (g_pz (g_lt L M) M 30 0).1, σ) := by
  unfold fX2_firstWrong
  by_cases h0 : M = 0
  · rw [h9, if_pos h0, if_pos (by rw [h0]; rfl)]
  · rw [h9, if_neg h0, if_neg (nI_ne0 (by omega) (by omega))]
    have e := fw_l13 σ hM h9 h10 hL 30 300 0 0 (by decide) (by decide) (by decide) (by decide)
    rw [nI_0] at e
    exact e

