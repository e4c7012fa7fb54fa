/-! the pure part, 21: one STATEMENT told -/
theorem dig_rng {x : Int32} (h : g_ft 100 x = true) : 0 ≤ x - 48 ∧ x - 48 ≤ 9 := by
  rw [ft100, decide_eq_true_iff] at h
  obtain ⟨j, hj, rfl⟩ := i32_natL 48 57 48 57 h.1 h.2 (by decide) (by decide) (by decide) (by decide)
  have z : (48 : Int32) = nI 48 := rfl
  rw [z, nI_sub (by omega)]
  exact ⟨nI_pos' (by omega), nI_le (b := 9) (by omega) (by decide)⟩
def g_Vd (lt : Nat → Int32) (p : Nat) : Prop := (lt p = 105 → 0 ≤ g_kx (lt (p + 1)) ∧ g_ft 100 (lt (p + 2)) = true ∧ g_ft 100 (lt (p + 3)) = true) ∧ (lt p = 104 ∨ lt p = 111 → g_ft 100 (lt (p + 1)) = true ∧ g_ft 100 (lt (p + 2)) = true ∧ g_ft 100 (lt (p + 3)) = true) ∧ (lt p = 109 → g_ft 100 (lt (p + 1)) = true) ∧ (lt p = 115 → g_ft 100 (lt (p + 1)) = true ∧ g_ft 100 (lt (p + 2)) = true)
theorem bt {b : Bool} {α : Type} {x y : α × Bool} (h : (if b = true then x else y).2 = true) (hy : y.2 = false) : b = true ∧ x.2 = true := by
  by_cases hb : b = true
  · rw [if_pos hb] at h
    exact ⟨hb, h⟩
  · rw [if_neg hb, hy] at h
    cases h
theorem vd_of {lt : Nat → Int32} {p : Nat} (h : (g_wr' lt p).2 = true) : g_Vd lt p := by
  unfold g_wr' at h
  refine ⟨fun e => ?_, fun e => ?_, fun e => ?_, fun e => ?_⟩
  · rw [e] at h
    have h' : (g_wk lt 0 4 0 (p + 1)).2 = true := h
    rw [wk_0] at h'
    obtain ⟨a1, a2⟩ := bt h' rfl
    obtain ⟨b1, b2⟩ := bt a2 rfl
    obtain ⟨c1, c2⟩ := bt b2 rfl
    rw [ft107, decide_eq_true_iff] at a1
    exact ⟨a1, b1, c1⟩
  · have h' : (g_wk lt 1 4 0 (p + 1)).2 = true := by
      rcases e with e | e
      · rw [e] at h
        exact h
      · rw [e] at h
        exact h
    rw [wk_1] at h'
    obtain ⟨a1, a2⟩ := bt h' rfl
    obtain ⟨b1, b2⟩ := bt a2 rfl
    obtain ⟨c1, c2⟩ := bt b2 rfl
    exact ⟨a1, b1, c1⟩
  · rw [e] at h
    have h' : (g_wk lt 2 2 0 (p + 1)).2 = true := h
    rw [wk_2] at h'
    exact (bt h' rfl).1
  · rw [e] at h
    have h' : (g_wk lt 3 3 0 (p + 1)).2 = true := h
    rw [wk_3] at h'
    obtain ⟨a1, a2⟩ := bt h' rfl
    exact ⟨a1, (bt a2 rfl).1⟩
def g_cl (x : Int32) : Prop := 0 ≤ x ∧ x ≤ 23
def g_tl (lt : Nat → Int32) (p : Nat) (B : BS) : Option BS :=
  if lt p = 104 then (if 0 ≤ g_D lt (p + 1) ∧ g_D lt (p + 1) ≤ 1 then (if 1 ≤ g_D lt (p + 2) ∧ g_D lt (p + 2) ≤ 3 then (if 2 ≤ g_D lt (p + 3) ∧ g_D lt (p + 3) ≤ 5 then some (upd (upd (upd B.1 5 (g_D lt (p + 1))) 6 (g_D lt (p + 2))) 7 (g_D lt (p + 3)), B.2) else none) else none) else none)
  else if lt p = 105 then (if 0 ≤ g_D2 lt (p + 2) ∧ g_D2 lt (p + 2) ≤ 23 then some (upd (upd B.1 1 (g_kx (lt (p + 1)))) 2 (g_D2 lt (p + 2)), B.2) else none)
  else if lt p = 109 then (if 0 ≤ g_D lt (p + 1) ∧ g_D lt (p + 1) ≤ 5 then some (upd B.1 8 (g_D lt (p + 1)), B.2) else none)
  else if lt p = 115 then (if 0 ≤ g_D2 lt (p + 1) ∧ g_D2 lt (p + 1) ≤ 23 then (if B.1 4 < 999 then some (bStroke B (g_D2 lt (p + 1))) else none) else none)
  else (if 0 ≤ g_D2 lt (p + 1) ∧ g_D2 lt (p + 1) ≤ 23 then some (B.1, upd B.2 (g_D2 lt (p + 1)).toNatClampNeg (g_D lt (p + 3))) else none)
theorem st_4 (B : BS) (c : Int32) : (bStroke B c).1 4 = B.1 4 + 1 := by
  unfold bStroke bTick bMove
  split <;> simp [upd, bHit]
theorem tm_stroke {B : BS} (h : g_tm B) (ht : B.1 4 < 999) (c : Int32) : g_tm (bStroke B c) := by
  unfold g_tm at *
  rw [st_4]
  have h0 := h.1
  constructor <;> grind
theorem tl_ok {lt : Nat → Int32} {p : Nat} (hv : g_Vd lt p) (h5 : lt p = 105 ∨ lt p = 104 ∨ lt p = 109 ∨ lt p = 115 ∨ lt p = 111) {B C : BS} (hB : okB B) (hT : g_tm B) (h : g_tl lt p B = some C) : okB C ∧ g_tm C := by
  unfold g_tl at h
  rcases h5 with e | e | e | e | e
  · rw [e, if_neg (by decide), if_pos rfl] at h
    split at h
    · rename_i hc
      cases h
      have hk := kx_rng (hv.1 e).1
      refine ⟨okB_up2 (B := (upd B.1 1 (g_kx (lt (p + 1))), B.2)) (okB_up1 hB hk.1 hk.2) hc.1 (Int32.le_trans hc.2 (by decide)), ?_⟩
      unfold g_tm at *
      simpa [upd] using hT
    · cases h
  · rw [e, if_pos rfl] at h
    split at h
    · rename_i h1
      split at h
      · rename_i h2
        split at h
        · rename_i h3
          cases h
          refine ⟨?_, ?_⟩
          · have b1 : okB (upd B.1 5 (g_D lt (p + 1)), B.2) := okB_he hB (Or.inl ⟨rfl, rfl, rfl⟩) h1.1 h1.2
            have b2 : okB (upd (upd B.1 5 (g_D lt (p + 1))) 6 (g_D lt (p + 2)), B.2) := okB_he (B := (upd B.1 5 (g_D lt (p + 1)), B.2)) b1 (Or.inr (Or.inl ⟨rfl, rfl, rfl⟩)) h2.1 h2.2
            exact okB_he (B := (upd (upd B.1 5 (g_D lt (p + 1))) 6 (g_D lt (p + 2)), B.2)) b2 (Or.inr (Or.inr (Or.inl ⟨rfl, rfl, rfl⟩))) h3.1 h3.2
          · unfold g_tm at *
            simpa [upd] using hT
        · cases h
      · cases h
    · cases h
  · rw [e, if_neg (by decide), if_neg (by decide), if_pos rfl] at h
    split at h
    · rename_i hc
      cases h
      refine ⟨okB_he hB (Or.inr (Or.inr (Or.inr ⟨rfl, rfl, rfl⟩))) hc.1 hc.2, ?_⟩
      unfold g_tm at *
      simpa [upd] using hT
    · cases h
  · rw [e, if_neg (by decide), if_neg (by decide), if_neg (by decide), if_pos rfl] at h
    split at h
    · rename_i hc
      split at h
      · rename_i ht
        cases h
        exact ⟨bStroke_ok hB hc.1 hc.2, tm_stroke hT ht _⟩
      · cases h
    · cases h
  · rw [e, if_neg (by decide), if_neg (by decide), if_neg (by decide), if_neg (by decide)] at h
    split at h
    · rename_i hc
      cases h
      have hd := dig_rng (hv.2.1 (Or.inr e)).2.2
      exact ⟨okB_sore hB (ix_lt (N := 24) 23 (by decide) hc.1 hc.2) hd.1 hd.2, hT⟩
    · cases h
-- the class's way
theorem digit_eq (σ : Sto) {L : Nat → Int32} {M j : Nat} (hM : M ≤ 80) (h9 : σ 9 1 = nI M) (h10 : σ 10 = L) (hj : j < 2 ^ 31) : fX2_digitAt (nI j) σ = some (g_D (g_lt L M) j, σ) := by
  unfold fX2_digitAt
  rw [lt_eq σ hM h9 h10 hj]
  rfl
theorem cell_eq (σ : Sto) {L : Nat → Int32} {M j : Nat} (hM : M ≤ 80) (h9 : σ 9 1 = nI M) (h10 : σ 10 = L) (hj : j < 2 ^ 30) : fX2_cellAt (nI j) σ = some (g_D2 (g_lt L M) j, σ) := by
  unfold fX2_cellAt
  rw [digit_eq σ hM h9 h10 (by omega), Option.bind_some, nI_1, digit_eq σ hM h9 h10 (by omega)]
  rfl
def g_tr' (σ : Sto) (B : BS) (o : Option BS) : Int32 × Sto := match o with
  | some C => (1, putB σ 5 C)
  | none => (0, putB σ 5 B)
theorem chk_tr (σ : Sto) (B : BS) (o : Option BS) : chkZ (g_tr' σ B o) = some (g_tr' σ B o) := by
  cases o <;> rfl
theorem tl_c (σ : Sto) {L : Nat → Int32} {M p : Nat} (hM : M ≤ 80) (h9 : σ 9 1 = nI M) (h10 : σ 10 = L) (hL : ∀ j, 0 ≤ L j ∧ L j ≤ 255) (hp : p < 2 ^ 20) (hv : g_Vd (g_lt L M) p) (h5 : g_lt L M p = 105 ∨ g_lt L M p = 104 ∨ g_lt L M p = 109 ∨ g_lt L M p = 115 ∨ g_lt L M p = 111) {B : BS} (hB : okB B) : fX2_tellOne 5 (nI p) (putB σ 5 B) = some (g_tr' σ B (g_tl (g_lt L M) p B)) := by
  have k9 : ∀ C, putB σ 5 C 9 1 = nI M := fun C => by rw [putB_ne _ _ _ (by decide) (by decide), h9]
  have k10 : ∀ C, putB σ 5 C 10 = L := fun C => by rw [putB_ne _ _ _ (by decide) (by decide), h10]
  have z2 : nI p + 2 = nI (p + 2) := by
    have : (2 : Int32) = nI 2 := rfl
    rw [this, nI_add]
  have z3 : nI p + 3 = nI (p + 3) := by
    have : (3 : Int32) = nI 3 := rfl
    rw [this, nI_add]
  have el := lt_eq (putB σ 5 B) hM (k9 B) (k10 B) (show p < 2 ^ 31 by omega)
  have d1 := digit_eq (putB σ 5 B) hM (k9 B) (k10 B) (show p + 1 < 2 ^ 31 by omega)
  have d2 := digit_eq (putB σ 5 B) hM (k9 B) (k10 B) (show p + 2 < 2 ^ 31 by omega)
  have d3 := digit_eq (putB σ 5 B) hM (k9 B) (k10 B) (show p + 3 < 2 ^ 31 by omega)
  have c1 := cell_eq (putB σ 5 B) hM (k9 B) (k10 B) (show p + 1 < 2 ^ 30 by omega)
  have c2 := cell_eq (putB σ 5 B) hM (k9 B) (k10 B) (show p + 2 < 2 ^ 30 by omega)
  suffices h : fX2_tellOne_e 5 (nI p) (putB σ 5 B) = some (g_tr' σ B (g_tl (g_lt L M) p B)) by
    unfold fX2_tellOne
    rw [h, Option.bind_some, chk_tr]
  unfold fX2_tellOne_e g_tl
  rw [el, Option.bind_some]
  dsimp only
  rcases h5 with e | e | e | e | e
  · -- i
    have hk := hv.1 e
    have hkr := kx_rng hk.1
    have hr : 0 ≤ g_lt L M (p + 1) ∧ g_lt L M (p + 1) ≤ 255 := by
      rcases lt_rng (M := M) hL (p + 1) with h | h
      · rw [h] at hk
        exact absurd hk.1 (by decide)
      · exact h
    obtain ⟨n, hn, en⟩ := i32_nat 255 255 hr.1 hr.2 (by decide)
    have el1 := lt_eq (putB σ 5 B) hM (k9 B) (k10 B) (show p + 1 < 2 ^ 31 by omega)
    have hi := isNot_in (v := g_kx (g_lt L M (p + 1))) (n := 6) (putB σ 5 B) hkr.1 (by have := hkr.2; grind)
    rw [e, if_neg (show ¬ (105 : Int32) = 104 by decide), if_neg (show ¬ (105 : Int32) = 104 by decide), if_pos rfl, if_pos rfl, nI_1, el1, Option.bind_some]
    dsimp only
    rw [en, index_eq (by omega), ← en, Option.bind_some, z2, c2, Option.bind_some]
    unfold fX2_tellItch fX2_tellItch_e
    rw [hi, Option.bind_some, if_pos rfl]
    dsimp only
    by_cases hc : 0 ≤ g_D2 (g_lt L M) (p + 2) ∧ g_D2 (g_lt L M) (p + 2) ≤ 23
    · rw [isNoCell_in _ hc.1 hc.2, Option.bind_some, if_pos rfl, if_pos hc]
      dsimp only
      rw [putB_up, putB_up, Option.bind_some, chkZ_1]
      rfl
    · rw [isNoCell_out _ hc, Option.bind_some, if_neg (show ¬ (1 : Int32) = 0 by decide), if_neg hc]
      rfl
  · -- h
    rw [e, if_pos rfl, if_pos rfl, nI_1, d1, Option.bind_some, z2]
    dsimp only
    rw [d2, Option.bind_some, z3]
    dsimp only
    rw [d3, Option.bind_some]
    unfold fX2_tellHe fX2_tellHe_e fX2_tellHe_b31 fX2_tellHe_b32
    dsimp only
    by_cases h1 : 0 ≤ g_D (g_lt L M) (p + 1) ∧ g_D (g_lt L M) (p + 1) ≤ 1
    · rw [within_in _ h1.1 h1.2, Option.bind_some, if_neg (show ¬ (1 : Int32) = 0 by decide), if_pos h1]
      dsimp only
      by_cases h2 : 1 ≤ g_D (g_lt L M) (p + 2) ∧ g_D (g_lt L M) (p + 2) ≤ 3
      · rw [within_in _ h2.1 h2.2, Option.bind_some, if_neg (show ¬ (1 : Int32) = 0 by decide), if_pos h2]
        dsimp only
        by_cases h3 : 2 ≤ g_D (g_lt L M) (p + 3) ∧ g_D (g_lt L M) (p + 3) ≤ 5
        · rw [within_in _ h3.1 h3.2, Option.bind_some, if_neg (show ¬ (1 : Int32) = 0 by decide), if_neg (show ¬ (1 : Int32) = 0 by decide), if_pos h3]
          dsimp only
          rw [putB_up, putB_up, putB_up, Option.bind_some, chkZ_1]
          rfl
        · rw [within_out _ h3, Option.bind_some, if_pos rfl, if_pos rfl, if_neg h3]
          rfl
      · rw [within_out _ h2, Option.bind_some, if_pos rfl, if_pos rfl, if_neg h2]
        rfl
    · rw [within_out _ h1, Option.bind_some, if_pos rfl, if_pos rfl, if_neg h1]
      rfl
  · -- m
    rw [e, if_neg (show ¬ (109 : Int32) = 104 by decide), if_neg (show ¬ (109 : Int32) = 105 by decide), if_pos rfl, if_neg (show ¬ (109 : Int32) = 104 by decide), if_neg (show ¬ (109 : Int32) = 105 by decide), if_pos rfl, nI_1, d1, Option.bind_some]
    unfold fX2_tellSeam fX2_tellSeam_e
    dsimp only
    by_cases h1 : 0 ≤ g_D (g_lt L M) (p + 1) ∧ g_D (g_lt L M) (p + 1) ≤ 5
    · rw [within_in _ h1.1 h1.2, Option.bind_some, if_neg (show ¬ (1 : Int32) = 0 by decide), if_pos h1]
      dsimp only
      rw [putB_up, Option.bind_some, chkZ_1]
      rfl
    · rw [within_out _ h1, Option.bind_some, if_pos rfl, if_neg h1]
      rfl
  · -- s
    rw [e, if_neg (show ¬ (115 : Int32) = 104 by decide), if_neg (show ¬ (115 : Int32) = 105 by decide), if_neg (show ¬ (115 : Int32) = 109 by decide), if_pos rfl, if_neg (show ¬ (115 : Int32) = 104 by decide), if_neg (show ¬ (115 : Int32) = 105 by decide), if_neg (show ¬ (115 : Int32) = 109 by decide), if_pos rfl, nI_1, c1, Option.bind_some]
    unfold fX2_tellStroke fX2_tellStroke_e
    dsimp only
    by_cases hc : 0 ≤ g_D2 (g_lt L M) (p + 1) ∧ g_D2 (g_lt L M) (p + 1) ≤ 23
    · rw [isNoCell_in _ hc.1 hc.2, Option.bind_some, if_pos rfl, if_pos hc]
      dsimp only
      have kk : putB σ 5 B 5 4 = B.1 4 := by rw [putB_k]
      by_cases ht : B.1 4 < 999
      · rw [if_pos (show putB σ 5 B 5 4 < 999 by rw [kk]; exact ht), if_pos ht, strokeOn_eq σ 5 B hc.1 hc.2 hB.2.2.1.1 hB.2.2.1.2]
        rfl
      · rw [if_neg (show ¬ putB σ 5 B 5 4 < 999 by rw [kk]; exact ht), if_neg ht]
        rfl
    · rw [isNoCell_out _ hc, Option.bind_some, if_neg (show ¬ (1 : Int32) = 0 by decide), if_neg hc]
      rfl
  · -- o
    have hd : 0 ≤ g_D (g_lt L M) (p + 3) ∧ g_D (g_lt L M) (p + 3) ≤ 9 := dig_rng (hv.2.1 (Or.inr e)).2.2
    rw [e, if_neg (show ¬ (111 : Int32) = 104 by decide), if_neg (show ¬ (111 : Int32) = 105 by decide), if_neg (show ¬ (111 : Int32) = 109 by decide), if_neg (show ¬ (111 : Int32) = 115 by decide), if_neg (show ¬ (111 : Int32) = 104 by decide), if_neg (show ¬ (111 : Int32) = 105 by decide), if_neg (show ¬ (111 : Int32) = 109 by decide), if_neg (show ¬ (111 : Int32) = 115 by decide), nI_1, c1, Option.bind_some, z3]
    dsimp only
    rw [d3, Option.bind_some]
    unfold fX2_tellSore fX2_tellSore_e fX0_setSore
    dsimp only
    by_cases hc : 0 ≤ g_D2 (g_lt L M) (p + 1) ∧ g_D2 (g_lt L M) (p + 1) ≤ 23
    · have hi := inb_of (N := 24) 23 (by decide) hc.1 hc.2
      rw [isNoCell_in _ hc.1 hc.2, Option.bind_some, if_pos rfl, if_pos hc]
      dsimp only
      rw [within_in _ hd.1 hd.2, Option.bind_some, if_neg (show ¬ (1 : Int32) = 0 by decide)]
      dsimp only
      rw [isNoCell_in _ hc.1 hc.2, Option.bind_some, if_pos rfl, if_pos hi]
      dsimp only
      rw [putB_up1]
      rfl
    · rw [isNoCell_out _ hc, Option.bind_some, if_neg (show ¬ (1 : Int32) = 0 by decide), if_neg hc]
      rfl
-- the reference's way
def g_tm' (τ : Sto) (B : BS) (o : Option BS) (r : Option (Int32 × Sto)) : Prop := match o with
  | some C => r = some (1, putM τ C)
  | none => ∃ B' : BS, B'.2 = B.2 ∧ r = some (0, putM τ B')
theorem tl_m (τ : Sto) {lt : Nat → Int32} {p k : Nat} (hk : k < 30) (h22 : τ 22 k = lt p) (ht : g_To (τ 24) lt (lt p) k (p + 1)) (hv : g_Vd lt p) (h5 : lt p = 105 ∨ lt p = 104 ∨ lt p = 109 ∨ lt p = 115 ∨ lt p = 111) {B : BS} (hB : okB B) (hT : g_tm B) : g_tm' τ B (g_tl lt p B) (fX4_comes (nI k) (putM τ B)) := by
  have k22 : putM τ B 22 = τ 22 := putM_ne _ _ (by decide)
  have k24 : ∀ C, putM τ C 24 = τ 24 := fun C => putM_ne _ _ (by decide)
  have i40 : inb (nI k) 40 = true := inb_nI (by omega) (by decide)
  have ck : (nI k).toNatClampNeg = k := nI_clamp (by omega)
  have e3k : (3 : Int32) * nI k = nI (3 * k) := by
    have : (3 : Int32) = nI 3 := rfl
    rw [this, pk_mul]
  have i0 : inb (nI (3 * k)) 120 = true := inb_nI (by omega) (by decide)
  have i1 : inb (nI (3 * k + 1)) 120 = true := inb_nI (by omega) (by decide)
  have i2 : inb (nI (3 * k + 2)) 120 = true := inb_nI (by omega) (by decide)
  have q0 : (nI (3 * k)).toNatClampNeg = 3 * k := nI_clamp (by omega)
  have q1 : (nI (3 * k + 1)).toNatClampNeg = 3 * k + 1 := nI_clamp (by omega)
  have q2 : (nI (3 * k + 2)).toNatClampNeg = 3 * k + 2 := nI_clamp (by omega)
  have z1 : nI (3 * k) + 1 = nI (3 * k + 1) := nI_1 _
  unfold fX4_comes fX4_comes_e g_tl
  rw [if_pos i40, ck, k22, h22, e3k, k24]
  rcases h5 with e | e | e | e | e
  · -- i
    have t := ht.1 e
    rw [e, if_neg (show ¬ (105 : Int32) = 104 by decide), if_pos rfl, if_neg (show ¬ (105 : Int32) = 104 by decide), if_pos rfl, if_pos i0, z1, if_pos i1, q0, q1, t.1, putM_u3, k24, t.2, putM_u4]
    unfold fX4_comes_b74
    rw [putM_4]
    by_cases hc : 0 ≤ g_D2 lt (p + 2) ∧ g_D2 lt (p + 2) ≤ 23
    · rw [if_pos hc]
      show _ = _
      dsimp only
      rw [upd_eq, isCell_in _ hc.1 hc.2]
      rfl
    · rw [if_neg hc]
      refine ⟨(upd (upd B.1 1 (g_kx (lt (p + 1)))) 2 (g_D2 lt (p + 2)), B.2), rfl, ?_⟩
      dsimp only
      rw [upd_eq, isCell_out _ hc]
      rfl
  · -- h
    have t := ht.2.1 e
    have n1 : ∀ x : Int32, (if (0 : Int32) = 1 then some ((1 : Int32), x) else none) = none := fun x => rfl
    have zz0 : nI (3 * k) + 0 = nI (3 * k) := int_0 _
    have zz2 : nI (3 * k) + 2 = nI (3 * k + 2) := by
      have : (2 : Int32) = nI 2 := rfl
      rw [this, nI_add]
    have j0 : inb (0 : Int32) 4 = true := by decide
    have j1 : inb (1 : Int32) 4 = true := by decide
    have j2 : inb (2 : Int32) 4 = true := by decide
    have w0 : (0 : Int32).toNatClampNeg = 0 := by decide
    have w1 : (1 : Int32).toNatClampNeg = 1 := by decide
    have w2 : (2 : Int32).toNatClampNeg = 2 := by decide
    have step : ∀ (n : Nat) (w L H : Int32) (i : Nat) (C : BS), i < 3 → w = nI i → fX4_leastOf w (putM τ C) = some (L, putM τ C) → fX4_mostOf w (putM τ C) = some (H, putM τ C) → fX4_comesHe_l2 (n + 1) (nI (3 * k)) w (putM τ C) = if L ≤ τ 24 (3 * k + i) ∧ τ 24 (3 * k + i) ≤ H then fX4_comesHe_l2 n (nI (3 * k)) (nI (i + 1)) (putM τ (upd C.1 (5 + i) (τ 24 (3 * k + i)), C.2)) else some (0, putM τ C) := by
      intro n w L H i C hi hw hl hm
      subst hw
      have ii : inb (nI (3 * k + i)) 120 = true := inb_nI (by omega) (by decide)
      have qi : (nI (3 * k + i)).toNatClampNeg = 3 * k + i := nI_clamp (by omega)
      have ji : inb (nI i) 4 = true := inb_nI (by omega) (by decide)
      have ci : (nI i).toNatClampNeg = i := nI_clamp (by omega)
      rw [fX4_comesHe_l2, if_neg (show ¬ (3 : Int32) ≤ nI i from nI_ge (b := 3) hi (by decide)), nI_add, if_pos ii, hl, Option.bind_some, hm, Option.bind_some, qi, k24]
      dsimp only
      by_cases hb : L ≤ τ 24 (3 * k + i) ∧ τ 24 (3 * k + i) ≤ H
      · rw [bound_in _ hb.1 hb.2, Option.bind_some, if_pos rfl, if_pos ii, if_pos ji, if_pos hb, ci, nI_1]
        dsimp only
        rw [k24, putM_u20 _ _ _ (show i < 4 by omega)]
      · rw [if_neg hb]
        by_cases hb1 : L ≤ τ 24 (3 * k + i)
        · rw [bound_hi _ hb1 (fun h => hb ⟨hb1, h⟩), Option.bind_some, if_neg (show ¬ (-6 : Int32) = 0 by decide)]
        · rw [bound_lo _ hb1, Option.bind_some, if_neg (show ¬ (-4 : Int32) = 0 by decide)]
    have s0 := step 299 0 0 1 0 B (by decide) rfl rfl rfl
    have s1 := fun C => step 298 1 1 3 1 C (by decide) rfl rfl rfl
    have s2 := fun C => step 297 2 2 5 2 C (by decide) rfl rfl rfl
    have z1' : nI 1 = (1 : Int32) := rfl
    have z2' : nI 2 = (2 : Int32) := rfl
    have z3' : nI 3 = (3 : Int32) := rfl
    simp only [Nat.add_zero, Nat.zero_add, t.1, z1', Nat.reduceAdd] at s0
    simp only [t.2.1, z2', Nat.reduceAdd] at s1
    simp only [t.2.2, z3', Nat.reduceAdd] at s2
    rw [e, if_pos rfl, if_pos rfl]
    unfold fX4_comesHe fX4_comesHe_e
    rw [s0]
    by_cases h1 : 0 ≤ g_D lt (p + 1) ∧ g_D lt (p + 1) ≤ 1
    · rw [if_pos h1, if_pos h1, s1]
      by_cases h2 : 1 ≤ g_D lt (p + 2) ∧ g_D lt (p + 2) ≤ 3
      · rw [if_pos h2, if_pos h2, s2]
        by_cases h3 : 2 ≤ g_D lt (p + 3) ∧ g_D lt (p + 3) ≤ 5
        · rw [if_pos h3, if_pos h3]
          show _ = _
          rw [fX4_comesHe_l2, if_pos (show (3 : Int32) ≤ 3 by decide), Option.bind_some, chkZ_1]
          rfl
        · rw [if_neg h3, if_neg h3]
          exact ⟨(upd (upd B.1 5 (g_D lt (p + 1))) 6 (g_D lt (p + 2)), B.2), rfl, rfl⟩
      · rw [if_neg h2, if_neg h2]
        exact ⟨(upd B.1 5 (g_D lt (p + 1)), B.2), rfl, rfl⟩
    · rw [if_neg h1, if_neg h1]
      exact ⟨B, rfl, rfl⟩
  · -- m
    have t := ht.2.2.1 e
    have hd : 0 ≤ g_D lt (p + 1) ∧ g_D lt (p + 1) ≤ 9 := dig_rng (hv.2.2.1 e)
    have j3 : inb (3 : Int32) 4 = true := by decide
    have w3 : (3 : Int32).toNatClampNeg = 3 := by decide
    rw [e, if_neg (show ¬ (109 : Int32) = 104 by decide), if_neg (show ¬ (109 : Int32) = 105 by decide), if_pos rfl, if_neg (show ¬ (109 : Int32) = 104 by decide), if_neg (show ¬ (109 : Int32) = 105 by decide), if_pos rfl, if_pos i0, if_pos j3, w3, q0, t, putM_uh3]
    unfold fX4_comes_b100
    rw [if_pos i0, q0, k24, t]
    by_cases h1 : 0 ≤ g_D lt (p + 1) ∧ g_D lt (p + 1) ≤ 5
    · have n6 : ¬ (6 : Int32) ≤ g_D lt (p + 1) := by grind
      rw [if_neg n6, if_pos h1]
      rfl
    · have n6 : (6 : Int32) ≤ g_D lt (p + 1) := by
        have := hd.1
        grind
      rw [if_pos n6, if_neg h1]
      exact ⟨(upd B.1 8 (g_D lt (p + 1)), B.2), rfl, rfl⟩
  · -- s
    have t := ht.2.2.2.1 e
    rw [e, if_neg (show ¬ (115 : Int32) = 104 by decide), if_neg (show ¬ (115 : Int32) = 105 by decide), if_neg (show ¬ (115 : Int32) = 109 by decide), if_pos rfl, if_neg (show ¬ (115 : Int32) = 104 by decide), if_neg (show ¬ (115 : Int32) = 105 by decide), if_neg (show ¬ (115 : Int32) = 109 by decide), if_pos rfl, if_pos i0, q0, t]
    by_cases hc : 0 ≤ g_D2 lt (p + 1) ∧ g_D2 lt (p + 1) ≤ 23
    · rw [isCell_in _ hc.1 hc.2, Option.bind_some, if_neg (show ¬ (1 : Int32) = 0 by decide), if_pos hc]
      dsimp only
      have kk : putM τ B 17 6 = B.1 4 := putM_6 τ B
      have kt : putM τ B 24 (3 * k) = g_D2 lt (p + 1) := by rw [k24]; exact t
      by_cases h9 : B.1 4 < 999
      · have n9 : ¬ B.1 4 = 999 := by grind
        rw [if_neg (show ¬ putM τ B 17 6 = 999 by rw [kk]; exact n9), if_pos i0, kt, if_pos h9, strokes_eq τ hB hc.1 hc.2]
        rfl
      · have n9 : B.1 4 = 999 := by
          have := hT.2
          grind
        rw [if_pos (show putM τ B 17 6 = 999 by rw [kk]; exact n9), if_neg h9]
        exact ⟨B, rfl, rfl⟩
    · rw [isCell_out _ hc, Option.bind_some, if_pos rfl, if_neg hc]
      exact ⟨B, rfl, rfl⟩
  · -- o
    have t := ht.2.2.2.2 e
    rw [e, if_neg (show ¬ (111 : Int32) = 104 by decide), if_neg (show ¬ (111 : Int32) = 105 by decide), if_neg (show ¬ (111 : Int32) = 109 by decide), if_neg (show ¬ (111 : Int32) = 115 by decide), if_neg (show ¬ (111 : Int32) = 104 by decide), if_neg (show ¬ (111 : Int32) = 105 by decide), if_neg (show ¬ (111 : Int32) = 109 by decide), if_neg (show ¬ (111 : Int32) = 115 by decide), if_pos i0, q0, t.1]
    by_cases hc : 0 ≤ g_D2 lt (p + 1) ∧ g_D2 lt (p + 1) ≤ 23
    · have hi := inb_of (N := 24) 23 (by decide) hc.1 hc.2
      rw [isCell_in _ hc.1 hc.2, Option.bind_some, if_neg (show ¬ (1 : Int32) = 0 by decide), if_pos hc, if_pos i0, z1, if_pos i1, q1]
      dsimp only
      have kt : putM τ B 24 (3 * k) = g_D2 lt (p + 1) := by rw [k24]; exact t.1
      have kt2 : putM τ B 24 (3 * k + 1) = g_D lt (p + 3) := by rw [k24]; exact t.2
      rw [if_pos (show inb (putM τ B 24 (3 * k)) 24 = true by rw [kt]; exact hi), kt, kt2, putM_u19]
      rfl
    · rw [isCell_out _ hc, Option.bind_some, if_pos rfl, if_neg hc]
      exact ⟨B, rfl, rfl⟩

