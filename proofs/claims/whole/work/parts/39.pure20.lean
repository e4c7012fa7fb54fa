/-! the pure part, 20: the reference's STATEMENTS one behind the other -/
theorem ft59 (x : Int32) : g_ft 59 x = decide (x = 59) := rfl
def g_wr' (lt : Nat → Int32) (p : Nat) : Nat × Bool := g_wk lt (g_sh (lt p)) (g_ln (g_sh (lt p))) 0 (p + 1)
theorem st_bad {L : Nat → Int32} {M p : Nat} (hM : M ≤ 80) {τ : Sto} (h : g_Hp τ L M p) (hp : p < 2 ^ 27) (h4 : g_sh (g_lt L M p) = 4) : fX4_statement τ = some (0, τ) := by
  have en := nx_eq τ hM h.1 h.2.1 h.2.2 (by omega)
  have n : ¬ g_lt L M p = 105 ∧ ¬ g_lt L M p = 104 ∧ ¬ g_lt L M p = 109 ∧ ¬ g_lt L M p = 115 ∧ ¬ g_lt L M p = 111 := by
    unfold g_sh at h4
    grind
  unfold fX4_statement fX4_statement_e
  rw [en, Option.bind_some]
  dsimp only
  rw [if_neg n.1, if_neg n.2.1, if_neg n.2.2.1, if_neg n.2.2.2.1, if_neg n.2.2.2.2]
  rfl
theorem st_ok {L : Nat → Int32} {M p : Nat} (hM : M ≤ 80) {τ : Sto} (h : g_Hp τ L M p) (hp : p < 2 ^ 27) {k : Nat} (hk : k < 30) (h13 : τ 17 13 = nI k) (h4 : ¬ g_sh (g_lt L M p) = 4) : ∃ τ', fX4_statement τ = some (if (g_wr' (g_lt L M) p).2 = true then 1 else 0, τ') ∧ τ' 17 12 = nI (g_wr' (g_lt L M) p).1 ∧ (∀ a, a ≠ 17 → a ≠ 22 → a ≠ 23 → a ≠ 24 → τ' a = τ a) ∧ (∀ j, j ≠ 12 → τ' 17 j = τ 17 j) ∧ (∀ j, j ≠ k → τ' 22 j = τ 22 j) ∧ (∀ j, j ≠ k → τ' 23 j = τ 23 j) ∧ (∀ j, ¬ (3 * k ≤ j ∧ j < 3 * k + 3) → τ' 24 j = τ 24 j) ∧ τ' 22 k = g_lt L M p ∧ τ' 23 k = nI p ∧ ((g_wr' (g_lt L M) p).2 = true → g_To (τ' 24) (g_lt L M) (g_lt L M p) k (p + 1)) := by
  have en := nx_eq τ hM h.1 h.2.1 h.2.2 (by omega)
  generalize hb : g_lt L M p = b at *
  have e37 : fX4_statement_e τ = fX4_statement_b37 b τ := by
    unfold fX4_statement_e
    rw [en, Option.bind_some]
    dsimp only
    rcases sh_b h4 with rfl | rfl | rfl | rfl | rfl <;> rfl
  have i40 : inb (nI k) 40 = true := inb_nI (by omega) (by decide)
  have ck : (nI k).toNatClampNeg = k := nI_clamp (by omega)
  have a13 : upS τ 22 k b 17 13 = nI k := by rw [upS_ne (by decide), h13]
  have a12 : upS τ 22 k b 17 12 = nI p := by rw [upS_ne (by decide), h.2.2]
  have b12 : upS (upS τ 22 k b) 23 k (nI p) 17 12 = nI p := by rw [upS_ne (by decide), a12]
  have e70 : fX4_statement_b37 b τ = fX4_statement_b70 b (upS (upS (upS τ 22 k b) 23 k (nI p)) 17 12 (nI (p + 1))) := by
    unfold fX4_statement_b37
    rw [h13, if_pos i40, ck, a13, if_pos i40, ck, a12, b12, nI_1]
  generalize hτ1 : upS (upS (upS τ 22 k b) 23 k (nI p)) 17 12 (nI (p + 1)) = τ1 at e70
  have p1 : g_Hp τ1 L M (p + 1) := by
    subst hτ1
    exact ⟨by simp [upS_app, h.1], by rw [upS_ne (by decide), upS_ne (by decide), upS_ne (by decide), h.2.1], by simp [upS_app]⟩
  have q13 : τ1 17 13 = nI k := by
    subst hτ1
    simp [upS_app, h13]
  obtain ⟨ok, τ2, q', eo, rr, g1, g2, hq'⟩ := ra_all hM p1 (show p + 1 < 2 ^ 28 by omega) hk h4
  have p2 := Rd_hp p1 rr
  have e3k : (3 : Int32) * nI k = nI (3 * k) := by
    have : (3 : Int32) = nI 3 := rfl
    rw [this, pk_mul]
  have ew : g_wr' (g_lt L M) p = g_wk (g_lt L M) (g_sh b) (g_ln (g_sh b)) 0 (p + 1) := by
    unfold g_wr'
    rw [hb]
  -- what holds of the store behind the reading, whatever the last letter
  have fr : (∀ a, a ≠ 17 → a ≠ 22 → a ≠ 23 → a ≠ 24 → τ2 a = τ a) ∧ (∀ j, j ≠ 12 → τ2 17 j = τ 17 j) ∧ (∀ j, j ≠ k → τ2 22 j = τ 22 j) ∧ (∀ j, j ≠ k → τ2 23 j = τ 23 j) ∧ (∀ j, ¬ (3 * k ≤ j ∧ j < 3 * k + 3) → τ2 24 j = τ 24 j) ∧ τ2 22 k = b ∧ τ2 23 k = nI p := by
    refine ⟨fun a a1 a2 a3 a4 => ?_, fun j hj => ?_, fun j hj => ?_, fun j hj => ?_, fun j hj => ?_, ?_, ?_⟩
    · rw [rr.2.1 a a1 a4]
      subst hτ1
      rw [upS_ne a1, upS_ne a3, upS_ne a2]
    · rw [rr.2.2.1 j hj]
      subst hτ1
      simp [upS_app, hj]
    · rw [rr.2.1 22 (by decide) (by decide)]
      subst hτ1
      simp [upS_app, hj]
    · rw [rr.2.1 23 (by decide) (by decide)]
      subst hτ1
      simp [upS_app, hj]
    · rw [rr.2.2.2 j hj]
      subst hτ1
      simp [upS_app]
    · rw [rr.2.1 22 (by decide) (by decide)]
      subst hτ1
      simp [upS_app]
    · rw [rr.2.1 23 (by decide) (by decide)]
      subst hτ1
      simp [upS_app]
  unfold fX4_statement
  rw [e37, e70]
  unfold fX4_statement_b70
  rw [q13, e3k, eo, Option.bind_some]
  cases ok with
  | false =>
    have g := g2 rfl
    rw [if_pos (show (if (false : Bool) = true then (1 : Int32) else 0) = 0 from rfl), Option.bind_some, chkZ_0, ew, g]
    exact ⟨τ2, rfl, rr.1, fr.1, fr.2.1, fr.2.2.1, fr.2.2.2.1, fr.2.2.2.2.1, fr.2.2.2.2.2.1, fr.2.2.2.2.2.2, fun e => by cases e⟩
  | true =>
    have g := g1 rfl
    have en2 := nx_eq τ2 hM p2.1 p2.2.1 p2.2.2 (show q' < 2 ^ 31 by omega)
    rw [if_neg (show ¬ (if (true : Bool) = true then (1 : Int32) else 0) = 0 by decide), en2, Option.bind_some]
    dsimp only
    rw [ew, g.1, ft59]
    by_cases h59 : g_lt L M q' = 59
    · rw [if_pos h59, decide_eq_true h59, p2.2.2, nI_1, Option.bind_some, chkZ_1]
      refine ⟨upS τ2 17 12 (nI (q' + 1)), rfl, by simp [upS_app], fun a a1 a2 a3 a4 => (upS_ne a1).trans (fr.1 a a1 a2 a3 a4), fun j hj => ?_, fun j hj => ?_, fun j hj => ?_, fun j hj => ?_, ?_, ?_, fun _ => ?_⟩
      · rw [← fr.2.1 j hj]
        simp [upS_app, hj]
      · rw [upS_ne (by decide)]
        exact fr.2.2.1 j hj
      · rw [upS_ne (by decide)]
        exact fr.2.2.2.1 j hj
      · rw [upS_ne (by decide)]
        exact fr.2.2.2.2.1 j hj
      · rw [upS_ne (by decide)]
        exact fr.2.2.2.2.2.1
      · rw [upS_ne (by decide)]
        exact fr.2.2.2.2.2.2
      · rw [upS_ne (by decide)]
        exact g.2
    · rw [if_neg h59, decide_eq_false h59, Option.bind_some, chkZ_0]
      exact ⟨τ2, rfl, rr.1, fr.1, fr.2.1, fr.2.2.1, fr.2.2.2.1, fr.2.2.2.2.1, fr.2.2.2.2.2.1, fr.2.2.2.2.2.2, fun e => by cases e⟩
def g_ps (lt : Nat → Int32) : Nat → Nat
  | 0 => 0
  | k + 1 => g_ps lt k + 1 + g_ln (g_sh (lt (g_ps lt k)))
theorem ps_le (lt : Nat → Int32) : ∀ k, g_ps lt k ≤ 5 * k := by
  intro k
  induction k with
  | zero => exact Nat.le_refl _
  | succ k ih =>
    have h5 := sh_lt (lt (g_ps lt k))
    have : ∀ s, s < 5 → g_ln s ≤ 4 := by decide
    have := this _ h5
    unfold g_ps
    omega
def g_Rc (τ : Sto) (lt : Nat → Int32) (k : Nat) : Prop := ∀ i, i < k → τ 22 i = lt (g_ps lt i) ∧ τ 23 i = nI (g_ps lt i) ∧ g_To (τ 24) lt (lt (g_ps lt i)) i (g_ps lt i + 1)
def g_Fr (τ τ' : Sto) : Prop := (∀ a, a ≠ 17 → a ≠ 22 → a ≠ 23 → a ≠ 24 → τ' a = τ a) ∧ ∀ j, j ≠ 12 → j ≠ 13 → τ' 17 j = τ 17 j
def g_Go (lt : Nat → Int32) (M i : Nat) : Prop := g_ps lt i < M ∧ ¬ g_sh (lt (g_ps lt i)) = 4 ∧ (g_wr' lt (g_ps lt i)).2 = true
theorem Fr_trans {τ τ' τ'' : Sto} (h : g_Fr τ τ') (k : g_Fr τ' τ'') : g_Fr τ τ'' := ⟨fun a a1 a2 a3 a4 => (k.1 a a1 a2 a3 a4).trans (h.1 a a1 a2 a3 a4), fun j j1 j2 => (k.2 j j1 j2).trans (h.2 j j1 j2)⟩
theorem To_congr {t t' : Nat → Int32} {lt : Nat → Int32} {b : Int32} {k q : Nat} (h : ∀ j, 3 * k ≤ j → j < 3 * k + 3 → t' j = t j) (g : g_To t lt b k q) : g_To t' lt b k q := by
  have h0 := h (3 * k) (by omega) (by omega)
  have h1 := h (3 * k + 1) (by omega) (by omega)
  have h2 := h (3 * k + 2) (by omega) (by omega)
  unfold g_To at *
  rw [h0, h1, h2]
  exact g
theorem pz_st {L : Nat → Int32} {M f p : Nat} : g_pz (g_lt L M) M (f + 1) p = if M ≤ p then (p, true) else if g_sh (g_lt L M p) = 4 then (p, false) else if (g_wr' (g_lt L M) p).2 = true then g_pz (g_lt L M) M f (g_wr' (g_lt L M) p).1 else g_wr' (g_lt L M) p := rfl
theorem ml_b53 (n : Nat) (v s0 : Int32) (τ : Sto) : fX4_back_b53 (fun a0 s => fX4_back_l12 n a0 s) v s0 (τ 17 13) τ = fX4_back_l12 n v (upS τ 17 13 (τ 17 13 + s0)) := rfl
theorem Fr_13 (τ : Sto) (x : Int32) : g_Fr τ (upS τ 17 13 x) := ⟨fun a a1 _ _ _ => upS_ne a1, fun j _ j2 => by simp [upS_app, j2]⟩
theorem ml {L : Nat → Int32} {M : Nat} (hM : M ≤ 80) (h0 : 0 < M) : ∀ f n k τ, f + 1 < n → k + f = 30 → 3 * k ≤ g_ps (g_lt L M) k → g_Hp τ L M (g_ps (g_lt L M) k) → τ 17 13 = nI k → g_Rc τ (g_lt L M) k → ((g_pz (g_lt L M) M f (g_ps (g_lt L M) k)).2 = false ∧ ∃ τ', fX4_back_l12 n 1 τ = fX4_back_b60 0 τ' ∧ τ' 17 12 = nI (g_pz (g_lt L M) M f (g_ps (g_lt L M) k)).1 ∧ g_Fr τ τ') ∨ ((g_pz (g_lt L M) M f (g_ps (g_lt L M) k)).2 = true ∧ ∃ K τ', k ≤ K ∧ K ≤ 30 ∧ M ≤ g_ps (g_lt L M) K ∧ (∀ i, k ≤ i → i < K → g_Go (g_lt L M) M i) ∧ fX4_back_l12 n 1 τ = fX4_back_b60 1 τ' ∧ τ' 17 13 = nI K ∧ g_Rc τ' (g_lt L M) K ∧ g_Fr τ τ') := by
  intro f
  induction f with
  | zero =>
    intro n k τ hn hk h3 hp h13 hR
    obtain ⟨n, rfl⟩ : ∃ q, n = q + 1 := ⟨n - 1, by omega⟩
    have h5 := ps_le (g_lt L M) k
    refine Or.inr ⟨rfl, k, τ, Nat.le_refl _, by omega, by omega, fun i h1 h2 => by omega, ?_, h13, hR, ⟨fun _ _ _ _ _ => rfl, fun _ _ _ => rfl⟩⟩
    rw [fX4_back_l12, if_neg (show ¬ (1 : Int32) = 0 by decide), hp.2.2, hp.1, if_neg (nI_nlt (by omega) (by omega)), h13, if_neg (nI_ne0 (by omega) (by omega))]
  | succ f ih =>
    intro n k τ hn hk h3 hp h13 hR
    obtain ⟨n, rfl⟩ : ∃ q, n = q + 2 := ⟨n - 2, by omega⟩
    have h5 := ps_le (g_lt L M) k
    rw [pz_st]
    by_cases hM2 : M ≤ g_ps (g_lt L M) k
    · rw [if_pos hM2]
      have hk0 : 0 < k := by
        rcases Nat.eq_zero_or_pos k with e | e
        · subst e
          have : g_ps (g_lt L M) 0 = 0 := rfl
          omega
        · exact e
      refine Or.inr ⟨rfl, k, τ, Nat.le_refl _, by omega, hM2, fun i h1 h2 => by omega, ?_, h13, hR, ⟨fun _ _ _ _ _ => rfl, fun _ _ _ => rfl⟩⟩
      rw [fX4_back_l12, if_neg (show ¬ (1 : Int32) = 0 by decide), hp.2.2, hp.1, if_neg (nI_nlt (by omega) (by omega)), h13, if_neg (nI_ne0 (by omega) (by omega))]
    · rw [if_neg hM2]
      have el : fX4_back_l12 (n + 2) 1 τ = fX4_back_b34 (fun a0 s => fX4_back_l12 (n + 1) a0 s) τ := by
        rw [fX4_back_l12, if_neg (show ¬ (1 : Int32) = 0 by decide), hp.2.2, hp.1, if_pos (nI_lt (by omega) (by omega))]
      have ez : ∀ υ, fX4_back_l12 (n + 1) 0 υ = fX4_back_b60 0 υ := by
        intro υ
        rw [fX4_back_l12, if_pos rfl]
      by_cases h4 : g_sh (g_lt L M (g_ps (g_lt L M) k)) = 4
      · rw [if_pos h4]
        refine Or.inl ⟨rfl, upS τ 17 13 (τ 17 13 + 0), ?_, by rw [← hp.2.2]; simp [upS_app], Fr_13 _ _⟩
        rw [el]
        unfold fX4_back_b34
        rw [st_bad hM hp (by omega) h4, Option.bind_some, if_pos rfl, ml_b53, ez]
      · rw [if_neg h4]
        obtain ⟨τ', e, s12, sf, s17, s22, s23, s24, t22, t23, t24⟩ := st_ok hM hp (by omega) (k := k) (by omega) h13 h4
        have t13 : τ' 17 13 = nI k := by rw [s17 13 (by decide), h13]
        have fr : g_Fr τ τ' := ⟨sf, fun j j1 _ => s17 j j1⟩
        by_cases hg : (g_wr' (g_lt L M) (g_ps (g_lt L M) k)).2 = true
        · rw [if_pos hg]
          have hs : g_sh (g_lt L M (g_ps (g_lt L M) k)) < 4 := by
            have := sh_lt (g_lt L M (g_ps (g_lt L M) k))
            omega
          have hl := ln_le _ hs
          have hw := (wk_le (g_lt L M) (g_sh (g_lt L M (g_ps (g_lt L M) k))) (g_ln (g_sh (g_lt L M (g_ps (g_lt L M) k)))) 0 (g_ps (g_lt L M) k + 1)).2.2 hg
          have eps : (g_wr' (g_lt L M) (g_ps (g_lt L M) k)).1 = g_ps (g_lt L M) (k + 1) := hw
          rw [eps] at s12 ⊢
          have hps : g_ps (g_lt L M) (k + 1) = g_ps (g_lt L M) k + 1 + g_ln (g_sh (g_lt L M (g_ps (g_lt L M) k))) := rfl
          have hN : fX4_back_l12 (n + 2) 1 τ = fX4_back_l12 (n + 1) 1 (upS τ' 17 13 (nI (k + 1))) := by
            rw [el]
            unfold fX4_back_b34
            rw [e, Option.bind_some, if_pos hg, if_neg (show ¬ (1 : Int32) = 0 by decide), ml_b53]
            dsimp only
            rw [t13, nI_1]
          have hp2 : g_Hp (upS τ' 17 13 (nI (k + 1))) L M (g_ps (g_lt L M) (k + 1)) := by
            refine ⟨?_, ?_, ?_⟩
            · rw [← hp.1, ← s17 11 (by decide)]
              simp [upS_app]
            · rw [upS_ne (by decide), sf 21 (by decide) (by decide) (by decide) (by decide), hp.2.1]
            · rw [← s12]
              simp [upS_app]
          have hR2 : g_Rc (upS τ' 17 13 (nI (k + 1))) (g_lt L M) (k + 1) := by
            intro i hi
            rw [upS_ne (by decide), upS_ne (by decide), upS_ne (by decide)]
            by_cases hik : i = k
            · subst hik
              exact ⟨t22, t23, t24 hg⟩
            · have hlt : i < k := by omega
              have hr := hR i hlt
              refine ⟨(s22 i hik).trans hr.1, (s23 i hik).trans hr.2.1, To_congr (fun j j1 j2 => s24 j (by omega)) hr.2.2⟩
          have fr2 : g_Fr τ (upS τ' 17 13 (nI (k + 1))) := Fr_trans fr (Fr_13 _ _)
          rcases ih (n + 1) (k + 1) (upS τ' 17 13 (nI (k + 1))) (by omega) (by omega) (by omega) hp2 (by simp [upS_app]) hR2 with ⟨c1, υ, c2, c3, c4⟩ | ⟨c1, K, υ, c2, c3, c4, c5, c6, c7, c8, c9⟩
          · exact Or.inl ⟨c1, υ, hN.trans c2, c3, Fr_trans fr2 c4⟩
          · refine Or.inr ⟨c1, K, υ, by omega, c3, c4, fun i h1 h2 => ?_, hN.trans c6, c7, c8, Fr_trans fr2 c9⟩
            by_cases hik : i = k
            · subst hik
              exact ⟨by omega, h4, hg⟩
            · exact c5 i (by omega) h2
        · rw [if_neg hg]
          refine Or.inl ⟨if_b1 hg, upS τ' 17 13 (nI k + 0), ?_, by rw [← s12]; simp [upS_app], Fr_trans fr (Fr_13 _ _)⟩
          rw [el]
          unfold fX4_back_b34
          rw [e, Option.bind_some, if_neg hg, if_pos rfl, ml_b53]
          dsimp only
          rw [t13, ez]

