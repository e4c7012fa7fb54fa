/-! the pure part, 15: ODDS, NEXT; sums of SORE, BEARS, GRID -/
theorem int_m1 (k : Nat) : nI (k + 1) + -1 = nI k := by
  have e : nI (k + 1) + -1 = nI (k + 1) - 1 := (Int32.sub_eq_add_neg _ _).symm
  rw [e, nI_pred]
theorem pow72 (i : Nat) : lN (72 ^ i) * 72 = lN (72 ^ (i + 1)) := by
  have z : (72 : Int64) = lN 72 := rfl
  rw [z, lN_mul, Nat.pow_succ]
theorem wt_cl (σ : Sto) (K : Nat) (hK : K ≤ 8) : ∀ m n i, m < n → i + m = K → fX3_weightOf_l28 n (nI K) (lN (72 ^ i)) (nI i) σ = some (lN (72 ^ K), σ) := by
  intro m
  induction m with
  | zero =>
    intro n i hn hi
    obtain ⟨n, rfl⟩ : ∃ q, n = q + 1 := ⟨n - 1, by omega⟩
    have : i = K := by omega
    subst this
    rw [fX3_weightOf_l28, if_pos (nI_le (Nat.le_refl _) (by omega))]
  | succ m ih =>
    intro n i hn hi
    obtain ⟨n, rfl⟩ : ∃ q, n = q + 1 := ⟨n - 1, by omega⟩
    rw [fX3_weightOf_l28, if_neg (nI_ge (by omega) (by omega)), pow72, nI_1]
    exact ih n (i + 1) (by omega) (by omega)
theorem wt_ml (σ : Sto) : ∀ k n i, k < n → k ≤ 8 → fX4_weightOf_l21 n (lN (72 ^ i)) (nI k) σ = some (lN (72 ^ (i + k)), σ) := by
  intro k
  induction k with
  | zero =>
    intro n i hn hk
    obtain ⟨n, rfl⟩ : ∃ q, n = q + 1 := ⟨n - 1, by omega⟩
    rw [fX4_weightOf_l21, if_pos (show nI 0 ≤ 0 by decide), Nat.add_zero]
  | succ k ih =>
    intro n i hn hk
    obtain ⟨n, rfl⟩ : ∃ q, n = q + 1 := ⟨n - 1, by omega⟩
    rw [fX4_weightOf_l21, if_neg (nI_nle (by omega) (by omega)), pow72, int_m1, show i + (k + 1) = i + 1 + k by omega]
    exact ih n (i + 1) (by omega) (by omega)
def g_wt (σ : Sto) (c : Nat) : Nat := 72 ^ g_ts σ (nI c) (σ 1 5) (σ 1 7)
theorem wt_c {σ : Sto} (hI : g_In σ) (c : Nat) : fX3_weightOf (nI c) σ = some (lN (g_wt σ c), σ) := by
  have hl := ts_le (In_Sa hI) (nI c) (σ 1 5) (σ 1 7)
  have e := wt_cl σ (g_ts σ (nI c) (σ 1 5) (σ 1 7)) hl (g_ts σ (nI c) (σ 1 5) (σ 1 7)) 300 0 (by omega) (by omega)
  have z1 : lN (72 ^ 0) = (1 : Int64) := rfl
  rw [z1, nI_0] at e
  unfold fX3_weightOf
  rw [tr_c (In_Sa hI), Option.bind_some]
  exact e
theorem wt_m {σ : Sto} (hI : g_In σ) {c : Nat} (hc : c ≤ 24) : fX4_weightOf (nI c) σ = some (lN (g_wt σ c), σ) := by
  have hl := ts_le (In_Sa hI) (nI c) (σ 1 5) (σ 1 7)
  have hr := he_rng hI
  have hm := he_M hI
  have e := wt_ml σ (g_ts σ (nI c) (σ 1 5) (σ 1 7)) 300 0 (by omega) hl
  have z1 : lN (72 ^ 0) = (1 : Int64) := rfl
  have i0 : inb 0 4 = true := by decide
  have i2 : inb 2 4 = true := by decide
  have c0 : (0 : Int32).toNatClampNeg = 0 := by decide
  have c2 : (2 : Int32).toNatClampNeg = 2 := by decide
  rw [z1, Nat.zero_add] at e
  unfold fX4_weightOf
  rw [if_pos i0, if_pos i2, c0, c2, hm.1, hm.2, rb_m (In_Sa hI) (nI_pos' (by omega)) (nI_le (b := 24) hc (by decide)) hr.1.1 hr.1.2 hr.2.1 hr.2.2, Option.bind_some]
  exact e
theorem wt_le {σ : Sto} (hI : g_In σ) : ∀ c, g_wt σ c ≤ 722204136308736 := fun c => by
  have hl := ts_le (In_Sa hI) (nI c) (σ 1 5) (σ 1 7)
  have h := Nat.pow_le_pow_right (show 0 < 72 by decide) hl
  have e8 : 72 ^ 8 = 722204136308736 := by decide
  rw [e8] at h
  exact h
theorem wt_pos (σ : Sto) (c : Nat) : 0 < g_wt σ c := Nat.pow_pos (by decide)
theorem od_c {σ : Sto} (hI : g_In σ) (q : Nat) (part : Int32) : ∀ m n c, m < n → c + m = 24 → fX3_odds_l33 n (nI q) part (lN (g_sum (g_wt σ) c)) (nI c) σ = some (g_fr (g_wt σ q) (g_sum (g_wt σ) 24) part, σ) := by
  intro m
  induction m with
  | zero =>
    intro n c hn hc
    obtain ⟨n, rfl⟩ : ∃ q, n = q + 1 := ⟨n - 1, by omega⟩
    have : c = 24 := by omega
    subst this
    have hs := sum_le (wt_le hI) 24
    have hq := wt_le hI q
    have hp : 0 < g_sum (g_wt σ) 24 := by
      have := wt_pos σ 23
      rw [g_sum]
      omega
    rw [fX3_odds_l33, if_pos (show (24 : Int32) ≤ nI 24 by decide), wt_c hI, Option.bind_some, frac_c σ (by omega) (by omega) hp, Option.bind_some]
  | succ m ih =>
    intro n c hn hc
    obtain ⟨n, rfl⟩ : ∃ q, n = q + 1 := ⟨n - 1, by omega⟩
    have hi := ih n (c + 1) (by omega) (by omega)
    rw [fX3_odds_l33, if_neg (show ¬ (24 : Int32) ≤ nI (c) from nI_ge (b := 24) (by omega) (by decide)), wt_c hI, Option.bind_some, lN_add, nI_1]
    exact hi
theorem od_m {σ : Sto} (hI : g_In σ) (q : Nat) (hq24 : q < 24) (part : Int32) : ∀ m n c, m < n → c + m = 24 → fX4_odds_l34 n (nI q) part (lN (g_sum (g_wt σ) c)) (nI c) σ = some (g_fr (g_wt σ q) (g_sum (g_wt σ) 24) part, σ) := by
  intro m
  induction m with
  | zero =>
    intro n c hn hc
    obtain ⟨n, rfl⟩ : ∃ q, n = q + 1 := ⟨n - 1, by omega⟩
    have : c = 24 := by omega
    subst this
    have hs := sum_le (wt_le hI) 24
    have hq := wt_le hI q
    have hp : 0 < g_sum (g_wt σ) 24 := by
      have := wt_pos σ 23
      rw [g_sum]
      omega
    rw [fX4_odds_l34, if_pos (show (24 : Int32) ≤ nI 24 by decide), wt_m hI (by omega), Option.bind_some, frac_m σ (by omega) (by omega) hp, Option.bind_some]
  | succ m ih =>
    intro n c hn hc
    obtain ⟨n, rfl⟩ : ∃ q, n = q + 1 := ⟨n - 1, by omega⟩
    have hi := ih n (c + 1) (by omega) (by omega)
    rw [fX4_odds_l34, if_neg (show ¬ (24 : Int32) ≤ nI (c) from nI_ge (b := 24) (by omega) (by decide)), wt_m hI (by omega), Option.bind_some, lN_add, nI_1]
    exact hi
theorem ok_odds (a part : Int32) : g_Ok (fX3_odds a part) (fX4_odds a part) := by
  by_cases h : 0 ≤ a ∧ a ≤ 23
  · by_cases k : 0 ≤ part ∧ part < 2
    · have k5 : part ≤ 1 := n_lt 2 1 (by decide) (by decide) k (by decide)
      obtain ⟨q, hq, rfl⟩ := i32_nat 23 23 h.1 h.2 (by decide)
      refine ok_same (fun σ => g_fr (g_wt σ q) (g_sum (g_wt σ) 24) part) (fun σ hI => ?_) (fun σ hI => ?_)
      · have e := od_c hI q part 24 300 0 (by decide) (by decide)
        have g0 : lN (g_sum (g_wt σ) 0) = (0 : Int64) := rfl
        rw [g0, nI_0] at e
        unfold fX3_odds
        rw [isNoCell_in _ h.1 h.2, Option.bind_some, if_pos rfl, isNot_in _ k.1 k.2, Option.bind_some, if_pos rfl]
        exact e
      · have e := od_m hI q (by omega) part 24 300 0 (by decide) (by decide)
        have g0 : lN (g_sum (g_wt σ) 0) = (0 : Int64) := rfl
        rw [g0, nI_0] at e
        unfold fX4_odds
        rw [isCell_in _ h.1 h.2, Option.bind_some, if_neg (show ¬ (1 : Int32) = 0 by decide), isIn_in _ k.1 k5, Option.bind_some, if_neg (show ¬ (1 : Int32) = 0 by decide)]
        exact e
    · intro σ hI
      have k2 : ¬ (0 ≤ part ∧ part ≤ 1) := by grind
      exact ⟨_, g_rf 2 σ, g_rm 2 (g_rf 2 σ), by simp only [fX3_odds, isNoCell_in _ h.1 h.2, isNot_out _ k, Option.bind_some, eq_self, if_true, if_false, i10, i01, m10, m20, m40, m60, m90, refuseLong_2]; rfl, by simp only [fX4_odds, isCell_in _ h.1 h.2, isIn_out _ k2, Option.bind_some, eq_self, if_true, if_false, i10, i01, m10, m20, m40, m60, m90, lowest_2], In_rf 2 hI⟩
  · intro σ hI
    exact ⟨_, g_rf 1 σ, g_rm 1 (g_rf 1 σ), by simp only [fX3_odds, isNoCell_out _ h, Option.bind_some, eq_self, if_true, if_false, i10, i01, m10, m20, m40, m60, m90, refuseLong_1]; rfl, by simp only [fX4_odds, isCell_out _ h, Option.bind_some, eq_self, if_true, if_false, i10, i01, m10, m20, m40, m60, m90, lowest_1], In_rf 1 hI⟩
-- NEXT
theorem and1 (x : Int32) : x &&& 1 = 0 ∨ x &&& 1 = 1 := by
  obtain ⟨j, hj, e⟩ := pk_andE x (m := 1) 1 (by decide)
  have : j = 0 ∨ j = 1 := by omega
  rcases this with rfl | rfl
  · exact Or.inl e
  · exact Or.inr e
def g_wd (fr l t : Int32) (c : Nat) : Nat := (pWord fr (nI c) l t).toNatClampNeg
def g_wG (cells fr l t : Int32) : Nat → (Nat → Nat) × Nat
  | 0 => (fun _ => 0, 0)
  | c + 1 => if (ishr5 cells (nI c)) &&& 1 = 1 then (fun j => if j = g_wd fr l t c then (g_wG cells fr l t c).1 j + 1 else (g_wG cells fr l t c).1 j, max (g_wG cells fr l t c).2 ((g_wG cells fr l t c).1 (g_wd fr l t c) + 1)) else g_wG cells fr l t c
theorem wG_le (cells fr l t : Int32) : ∀ c, (∀ j, (g_wG cells fr l t c).1 j ≤ c) ∧ (g_wG cells fr l t c).2 ≤ c := by
  intro c
  induction c with
  | zero => exact ⟨fun _ => Nat.le_refl _, Nat.le_refl _⟩
  | succ c ih =>
    unfold g_wG
    split
    · refine ⟨fun j => ?_, ?_⟩
      · have := ih.1 j
        dsimp only
        split <;> omega
      · have := ih.1 (g_wd fr l t c)
        have := ih.2
        dsimp only
        omega
    · exact ⟨fun j => by have := ih.1 j; omega, by have := ih.2; omega⟩
theorem mx_max {a b : Nat} (ha : a < 2 ^ 31) (hb : b < 2 ^ 31) : mxI (nI a) (nI b) = nI (max a b) := by
  unfold mxI
  by_cases h : a < b
  · rw [if_pos (nI_lt h hb), Nat.max_eq_right (by omega)]
  · rw [if_neg (nI_nlt (by omega) ha), Nat.max_eq_left (by omega)]
theorem wd_rng {fr l t : Int32} (f0 : 0 ≤ fr) (f1 : fr ≤ 23) (l0 : 0 ≤ l) (l1 : l ≤ 1) (t0 : 2 ≤ t) (t1 : t ≤ 5) {c : Nat} (hc : c < 24) : pWord fr (nI c) l t = nI (g_wd fr l t c) ∧ g_wd fr l t c ≤ 8 := by
  have h := word_rng f0 f1 (nI_pos' (n := c) (by omega)) (nI_le (b := 23) (by omega) (by decide)) l0 l1 t0 t1
  obtain ⟨j, hj, e⟩ := i32_nat 8 8 h.1 h.2 (by decide)
  unfold g_wd
  rw [e, nI_clamp (by omega)]
  exact ⟨rfl, hj⟩
theorem setS_up (σ : Sto) (k : Nat) (H : Nat → Int32) (j : Nat) (x : Int32) : upS (setS σ k H) k j x = setS σ k (upd H j x) := by
  funext a i
  simp only [upS_app, setS_app, upd]
  by_cases h : a = k
  · subst h
    simp
  · simp [h]
theorem lw_c (σ : Sto) (fr cells : Int32) (f0 : 0 ≤ fr) (f1 : fr ≤ 23) (h5 : 0 ≤ σ 1 5 ∧ σ 1 5 ≤ 1) (h7 : 2 ≤ σ 1 7 ∧ σ 1 7 ≤ 5) : ∀ m n c H, m < n → c + m = 24 → (∀ j, j < 9 → H j = nI ((g_wG cells fr (σ 1 5) (σ 1 7) c).1 j)) → ∃ H', fX3_leftAtWorst_l26 n fr cells (nI (g_wG cells fr (σ 1 5) (σ 1 7) c).2) (nI c) (setS σ 15 H) = some (nI (g_wG cells fr (σ 1 5) (σ 1 7) 24).2, setS σ 15 H') := by
  intro m
  induction m with
  | zero =>
    intro n c H hn hc hH
    obtain ⟨n, rfl⟩ : ∃ q, n = q + 1 := ⟨n - 1, by omega⟩
    have : c = 24 := by omega
    subst this
    exact ⟨H, by rw [fX3_leftAtWorst_l26, if_pos (show (24 : Int32) ≤ nI 24 by decide)]⟩
  | succ m ih =>
    intro n c H hn hc hH
    obtain ⟨n, rfl⟩ : ∃ q, n = q + 1 := ⟨n - 1, by omega⟩
    have hw := wd_rng f0 f1 h5.1 h5.2 h7.1 h7.2 (c := c) (by omega)
    have hg := wG_le cells fr (σ 1 5) (σ 1 7) c
    have s15 : ∀ G : Nat → Int32, setS σ 15 G 15 = G := fun G => setS_eq
    have s1 : ∀ G : Nat → Int32, setS σ 15 G 1 = σ 1 := fun G => setS_ne (by decide)
    rw [fX3_leftAtWorst_l26, if_neg (show ¬ (24 : Int32) ≤ nI (c) from nI_ge (b := 24) (by omega) (by decide)), wordSaid_eq, Option.bind_some]
    simp only [s1, hw.1, nI_clamp (show g_wd fr (σ 1 5) (σ 1 7) c < 2 ^ 31 by omega), s15]
    unfold fX3_leftAtWorst_b100 fX3_leftAtWorst_b88
    by_cases hb : (ishr5 cells (nI c)) &&& 1 = 1
    · have eg : g_wG cells fr (σ 1 5) (σ 1 7) (c + 1) = (fun j => if j = g_wd fr (σ 1 5) (σ 1 7) c then (g_wG cells fr (σ 1 5) (σ 1 7) c).1 j + 1 else (g_wG cells fr (σ 1 5) (σ 1 7) c).1 j, max (g_wG cells fr (σ 1 5) (σ 1 7) c).2 ((g_wG cells fr (σ 1 5) (σ 1 7) c).1 (g_wd fr (σ 1 5) (σ 1 7) c) + 1)) := by rw [g_wG, if_pos hb]
      have hx : H (g_wd fr (σ 1 5) (σ 1 7) c) = nI ((g_wG cells fr (σ 1 5) (σ 1 7) c).1 (g_wd fr (σ 1 5) (σ 1 7) c)) := hH _ (by omega)
      have ho := hg.1 (g_wd fr (σ 1 5) (σ 1 7) c)
      obtain ⟨H', hi⟩ := ih n (c + 1) (upd H (g_wd fr (σ 1 5) (σ 1 7) c) (nI ((g_wG cells fr (σ 1 5) (σ 1 7) c).1 (g_wd fr (σ 1 5) (σ 1 7) c) + 1))) (by omega) (by omega) (by
        intro j hj
        rw [eg]
        unfold upd
        dsimp only
        by_cases hjd : j = g_wd fr (σ 1 5) (σ 1 7) c
        · rw [if_pos hjd, if_pos hjd, hjd]
        · rw [if_neg hjd, if_neg hjd]
          exact hH j hj)
      refine ⟨H', ?_⟩
      have i9 : inb (nI (g_wd fr (σ 1 5) (σ 1 7) c)) 9 = true := inb_nI (by omega) (by decide)
      have n9 : ¬ (9 : Int32) ≤ nI (g_wd fr (σ 1 5) (σ 1 7) c) := nI_ge (b := 9) (by omega) (by decide)
      rw [if_pos hb, if_neg (nI_pos (by omega)), if_neg n9, if_pos i9, if_pos i9, if_pos i9, hx, nI_1, setS_up]
      simp only [fX3_leftAtWorst_b100, s15, nI_clamp (show g_wd fr (σ 1 5) (σ 1 7) c < 2 ^ 31 by omega), upd_eq, nI_1]
      rw [mx_max (by omega) (by omega)]
      rw [eg] at hi
      exact hi
    · have eg : g_wG cells fr (σ 1 5) (σ 1 7) (c + 1) = g_wG cells fr (σ 1 5) (σ 1 7) c := by rw [g_wG, if_neg hb]
      obtain ⟨H', hi⟩ := ih n (c + 1) H (by omega) (by omega) (by rw [eg]; exact hH)
      refine ⟨H', ?_⟩
      rw [if_neg hb, nI_1]
      rw [eg] at hi
      exact hi
theorem wordFrom_g (a b : Int32) (τ : Sto) : fX4_wordFrom a b τ = some (qWord a b (τ 20 0) (τ 20 2), τ) := by
  have i0 : inb 0 4 = true := by decide
  have i2 : inb 2 4 = true := by decide
  have c0 : (0 : Int32).toNatClampNeg = 0 := by decide
  have c2 : (2 : Int32).toNatClampNeg = 2 := by decide
  simp only [fX4_wordFrom, i0, i2, if_true, c0, c2, wordBy_eq, Option.bind_some]
theorem wf_m (σ : Sto) (fr cells l t : Int32) (f0 : 0 ≤ fr) (f1 : fr ≤ 23) (h5 : 0 ≤ l ∧ l ≤ 1) (h7 : 2 ≤ t ∧ t ≤ 5) (e0 : σ 20 0 = l) (e2 : σ 20 2 = t) : ∀ m n c H, m < n → c + m = 24 → (∀ j, j < 10 → H j = nI ((g_wG cells fr l t c).1 j)) → ∃ H', fX4_worstFrom_l26 n fr cells (nI (g_wG cells fr l t c).2) (nI c) (setS σ 28 H) = some (nI (g_wG cells fr l t 24).2, setS σ 28 H') := by
  intro m
  induction m with
  | zero =>
    intro n c H hn hc hH
    obtain ⟨n, rfl⟩ : ∃ q, n = q + 1 := ⟨n - 1, by omega⟩
    have : c = 24 := by omega
    subst this
    exact ⟨H, by rw [fX4_worstFrom_l26, if_pos (show (24 : Int32) ≤ nI 24 by decide)]⟩
  | succ m ih =>
    intro n c H hn hc hH
    obtain ⟨n, rfl⟩ : ∃ q, n = q + 1 := ⟨n - 1, by omega⟩
    have hw := wd_rng f0 f1 h5.1 h5.2 h7.1 h7.2 (c := c) (by omega)
    have hg := wG_le cells fr l t c
    have s15 : ∀ G : Nat → Int32, setS σ 28 G 28 = G := fun G => setS_eq
    have s1 : ∀ G : Nat → Int32, setS σ 28 G 20 = σ 20 := fun G => setS_ne (by decide)
    have hq := word_eq f0 f1 (nI_pos' (n := c) (by omega)) (nI_le (a := c) (b := 24) (by omega) (by decide)) h5.1 h5.2 h7.1 h7.2
    rw [fX4_worstFrom_l26, if_neg (show ¬ (24 : Int32) ≤ nI (c) from nI_ge (b := 24) (by omega) (by decide))]
    by_cases hb : (ishr5 cells (nI c)) &&& 1 = 1
    · have eg : g_wG cells fr l t (c + 1) = (fun j => if j = g_wd fr l t c then (g_wG cells fr l t c).1 j + 1 else (g_wG cells fr l t c).1 j, max (g_wG cells fr l t c).2 ((g_wG cells fr l t c).1 (g_wd fr l t c) + 1)) := by rw [g_wG, if_pos hb]
      have hx : H (g_wd fr l t c) = nI ((g_wG cells fr l t c).1 (g_wd fr l t c)) := hH _ (by omega)
      have ho := hg.1 (g_wd fr l t c)
      obtain ⟨H', hi⟩ := ih n (c + 1) (upd H (g_wd fr l t c) (nI ((g_wG cells fr l t c).1 (g_wd fr l t c) + 1))) (by omega) (by omega) (by
        intro j hj
        rw [eg]
        unfold upd
        dsimp only
        by_cases hjd : j = g_wd fr l t c
        · rw [if_pos hjd, if_pos hjd, hjd]
        · rw [if_neg hjd, if_neg hjd]
          exact hH j hj)
      refine ⟨H', ?_⟩
      have i9 : inb (nI (g_wd fr l t c)) 10 = true := inb_nI (by omega) (by decide)
      have hb0 : ¬ (ishr5 cells (nI c)) &&& 1 = 0 := by rw [hb]; decide
      rw [if_neg hb0, wordFrom_g, Option.bind_some]
      simp only [s1, e0, e2, ← hq, hw.1]
      rw [if_pos i9, if_pos i9]
      simp only [nI_clamp (show g_wd fr l t c < 2 ^ 31 by omega), s15, hx, nI_1, setS_up]
      unfold fX4_worstFrom_b65 fX4_worstFrom_b87 fX4_worstFrom_b88
      rw [if_pos i9]
      simp only [nI_clamp (show g_wd fr l t c < 2 ^ 31 by omega), s15, upd_eq, nI_1, if_pos i9]
      rw [eg] at hi
      by_cases hm : (g_wG cells fr l t c).1 (g_wd fr l t c) + 1 ≤ (g_wG cells fr l t c).2
      · rw [if_pos (nI_le hm (by omega))]
        rw [Nat.max_eq_left hm] at hi
        exact hi
      · rw [if_neg (nI_ge (by omega) (by omega))]
        rw [Nat.max_eq_right (by omega)] at hi
        exact hi
    · have eg : g_wG cells fr l t (c + 1) = g_wG cells fr l t c := by rw [g_wG, if_neg hb]
      obtain ⟨H', hi⟩ := ih n (c + 1) H (by omega) (by omega) (by rw [eg]; exact hH)
      refine ⟨H', ?_⟩
      rw [if_pos ((and1 _).resolve_right hb)]
      unfold fX4_worstFrom_b88
      rw [nI_1]
      rw [eg] at hi
      exact hi
theorem lw_z (σ : Sto) (fr cells : Int32) : ∀ m n v H, m < n → v + m = 9 → (∀ j, j < v → H j = 0) → ∃ H', (∀ j, j < 9 → H' j = 0) ∧ fX3_leftAtWorst_l2 n fr cells (nI v) (setS σ 15 H) = fX3_leftAtWorst_l26 300 fr cells 0 0 (setS σ 15 H') := by
  intro m
  induction m with
  | zero =>
    intro n v H hn hv hH
    obtain ⟨n, rfl⟩ : ∃ q, n = q + 1 := ⟨n - 1, by omega⟩
    have : v = 9 := by omega
    subst this
    exact ⟨H, hH, by rw [fX3_leftAtWorst_l2, if_pos (show (9 : Int32) ≤ nI 9 by decide)]⟩
  | succ m ih =>
    intro n v H hn hv hH
    obtain ⟨n, rfl⟩ : ∃ q, n = q + 1 := ⟨n - 1, by omega⟩
    obtain ⟨H', h1, h2⟩ := ih n (v + 1) (upd H v 0) (by omega) (by omega) (by
      intro j hj
      unfold upd
      by_cases e : j = v
      · rw [if_pos e]
      · rw [if_neg e]
        exact hH j (by omega))
    refine ⟨H', h1, ?_⟩
    rw [fX3_leftAtWorst_l2, if_neg (show ¬ (9 : Int32) ≤ nI (v) from nI_ge (b := 9) (by omega) (by decide)), if_pos (inb_nI (by omega) (by decide)), nI_clamp (by omega), setS_up, nI_1]
    exact h2
theorem wf_z (σ : Sto) (fr cells : Int32) : ∀ m n v H, m < n → v + m = 10 → (∀ j, j < v → H j = 0) → ∃ H', (∀ j, j < 10 → H' j = 0) ∧ fX4_worstFrom_l2 n fr cells (nI v) (setS σ 28 H) = fX4_worstFrom_l26 300 fr cells 0 0 (setS σ 28 H') := by
  intro m
  induction m with
  | zero =>
    intro n v H hn hv hH
    obtain ⟨n, rfl⟩ : ∃ q, n = q + 1 := ⟨n - 1, by omega⟩
    have : v = 10 := by omega
    subst this
    exact ⟨H, hH, by rw [fX4_worstFrom_l2, if_pos (show (10 : Int32) ≤ nI 10 by decide)]⟩
  | succ m ih =>
    intro n v H hn hv hH
    obtain ⟨n, rfl⟩ : ∃ q, n = q + 1 := ⟨n - 1, by omega⟩
    obtain ⟨H', h1, h2⟩ := ih n (v + 1) (upd H v 0) (by omega) (by omega) (by
      intro j hj
      unfold upd
      by_cases e : j = v
      · rw [if_pos e]
      · rw [if_neg e]
        exact hH j (by omega))
    refine ⟨H', h1, ?_⟩
    rw [fX4_worstFrom_l2, if_neg (show ¬ (10 : Int32) ≤ nI (v) from nI_ge (b := 10) (by omega) (by decide)), if_pos (inb_nI (by omega) (by decide)), nI_clamp (by omega), setS_up, nI_1]
    exact h2
def g_wo (cells l t : Int32) (fr : Nat) : Nat := (g_wG cells (nI fr) l t 24).2
theorem wo_le (cells l t : Int32) : ∀ fr, g_wo cells l t fr ≤ 24 := fun _ => (wG_le _ _ _ _ 24).2
theorem lw_a {σ : Sto} (hI : g_In σ) (cells : Int32) {fr : Nat} (hf : fr < 24) (H : Nat → Int32) : ∃ H', fX3_leftAtWorst (nI fr) cells (setS σ 15 H) = some (nI (g_wo cells (σ 1 5) (σ 1 7) fr), setS σ 15 H') := by
  have hr := he_rng hI
  obtain ⟨H1, h1, e1⟩ := lw_z σ (nI fr) cells 9 300 0 H (by decide) (by decide) (by intro j hj; omega)
  obtain ⟨H2, e2⟩ := lw_c σ (nI fr) cells (nI_pos' (by omega)) (nI_le (b := 23) (by omega) (by decide)) hr.1 hr.2 24 300 0 H1 (by decide) (by decide) (fun j hj => h1 j hj)
  refine ⟨H2, ?_⟩
  have g0 : nI (g_wG cells (nI fr) (σ 1 5) (σ 1 7) 0).2 = 0 := rfl
  rw [g0, nI_0] at e2
  rw [nI_0] at e1
  unfold fX3_leftAtWorst g_wo
  rw [e1, e2]
theorem wf_a {σ : Sto} (hI : g_In σ) (cells : Int32) {fr : Nat} (hf : fr < 24) (H : Nat → Int32) : ∃ H', fX4_worstFrom (nI fr) cells (setS σ 28 H) = some (nI (g_wo cells (σ 1 5) (σ 1 7) fr), setS σ 28 H') := by
  have hr := he_rng hI
  have hm := he_M hI
  obtain ⟨H1, h1, e1⟩ := wf_z σ (nI fr) cells 10 300 0 H (by decide) (by decide) (by intro j hj; omega)
  obtain ⟨H2, e2⟩ := wf_m σ (nI fr) cells (σ 1 5) (σ 1 7) (nI_pos' (by omega)) (nI_le (b := 23) (by omega) (by decide)) hr.1 hr.2 hm.1 hm.2 24 300 0 H1 (by decide) (by decide) (fun j hj => h1 j hj)
  refine ⟨H2, ?_⟩
  have g0 : nI (g_wG cells (nI fr) (σ 1 5) (σ 1 7) 0).2 = 0 := rfl
  rw [g0, nI_0] at e2
  rw [nI_0] at e1
  unfold fX4_worstFrom g_wo
  rw [e1, e2]
def g_na (what : Int32) (p : Nat × Nat) : Int32 := if what = 0 then nI p.1 else nI p.2
theorem nx_c {σ : Sto} (hI : g_In σ) (what cells : Int32) : ∀ m n t H, m < n → t + 1 + m = 24 → ∃ H', fX3_next_l53 n what cells (nI (g_mn (g_wo cells (σ 1 5) (σ 1 7)) t).1) (nI (g_mn (g_wo cells (σ 1 5) (σ 1 7)) t).2) (nI (t + 1)) (setS σ 15 H) = some (g_na what (g_mn (g_wo cells (σ 1 5) (σ 1 7)) 23), setS σ 15 H') := by
  intro m
  induction m with
  | zero =>
    intro n t H hn ht
    obtain ⟨n, rfl⟩ : ∃ q, n = q + 1 := ⟨n - 1, by omega⟩
    have : t = 23 := by omega
    subst this
    refine ⟨H, ?_⟩
    rw [fX3_next_l53, if_pos (show (24 : Int32) ≤ nI (23 + 1) by decide)]
    unfold g_na
    split <;> rfl
  | succ m ih =>
    intro n t H hn ht
    obtain ⟨n, rfl⟩ : ∃ q, n = q + 1 := ⟨n - 1, by omega⟩
    obtain ⟨H1, e1⟩ := lw_a hI cells (fr := t + 1) (by omega) H
    obtain ⟨H2, hi⟩ := ih n (t + 1) H1 (by omega) (by omega)
    refine ⟨H2, ?_⟩
    have hle := wo_le cells (σ 1 5) (σ 1 7) (t + 1)
    have hmn := mn_le (wo_le cells (σ 1 5) (σ 1 7)) t
    rw [fX3_next_l53, if_neg (show ¬ (24 : Int32) ≤ nI (t + 1) from nI_ge (b := 24) (by omega) (by decide)), e1, Option.bind_some]
    unfold fX3_next_b83
    simp only [nI_1]
    by_cases hc : (g_mn (g_wo cells (σ 1 5) (σ 1 7)) t).2 ≤ g_wo cells (σ 1 5) (σ 1 7) (t + 1)
    · rw [if_pos (nI_le hc (by omega))]
      have em : g_mn (g_wo cells (σ 1 5) (σ 1 7)) (t + 1) = g_mn (g_wo cells (σ 1 5) (σ 1 7)) t := by rw [g_mn, if_pos hc]
      rw [em] at hi
      exact hi
    · rw [if_neg (nI_ge (by omega) (by omega))]
      have em : g_mn (g_wo cells (σ 1 5) (σ 1 7)) (t + 1) = (t + 1, g_wo cells (σ 1 5) (σ 1 7) (t + 1)) := by rw [g_mn, if_neg hc]
      rw [em] at hi
      exact hi
theorem nx_m {σ : Sto} (hI : g_In σ) (what cells : Int32) : ∀ m n t H, m < n → t + 1 + m = 24 → ∃ H', fX4_next__l50 n what cells (nI (g_mn (g_wo cells (σ 1 5) (σ 1 7)) t).1) (nI (g_mn (g_wo cells (σ 1 5) (σ 1 7)) t).2) (nI (t + 1)) (setS σ 28 H) = some (g_na what (g_mn (g_wo cells (σ 1 5) (σ 1 7)) 23), setS σ 28 H') := by
  intro m
  induction m with
  | zero =>
    intro n t H hn ht
    obtain ⟨n, rfl⟩ : ∃ q, n = q + 1 := ⟨n - 1, by omega⟩
    have : t = 23 := by omega
    subst this
    refine ⟨H, ?_⟩
    rw [fX4_next__l50, if_pos (show (24 : Int32) ≤ nI (23 + 1) by decide)]
    unfold g_na
    split <;> rfl
  | succ m ih =>
    intro n t H hn ht
    obtain ⟨n, rfl⟩ : ∃ q, n = q + 1 := ⟨n - 1, by omega⟩
    obtain ⟨H1, e1⟩ := wf_a hI cells (fr := t + 1) (by omega) H
    obtain ⟨H2, hi⟩ := ih n (t + 1) H1 (by omega) (by omega)
    refine ⟨H2, ?_⟩
    have hle := wo_le cells (σ 1 5) (σ 1 7) (t + 1)
    have hmn := mn_le (wo_le cells (σ 1 5) (σ 1 7)) t
    rw [fX4_next__l50, if_neg (show ¬ (24 : Int32) ≤ nI (t + 1) from nI_ge (b := 24) (by omega) (by decide)), e1, Option.bind_some]
    unfold fX4_next__b83
    simp only [nI_1]
    by_cases hc : (g_mn (g_wo cells (σ 1 5) (σ 1 7)) t).2 ≤ g_wo cells (σ 1 5) (σ 1 7) (t + 1)
    · rw [if_neg (nI_nlt hc (by omega))]
      have em : g_mn (g_wo cells (σ 1 5) (σ 1 7)) (t + 1) = g_mn (g_wo cells (σ 1 5) (σ 1 7)) t := by rw [g_mn, if_pos hc]
      rw [em] at hi
      exact hi
    · rw [if_pos (nI_lt (by omega) (by omega))]
      have em : g_mn (g_wo cells (σ 1 5) (σ 1 7)) (t + 1) = (t + 1, g_wo cells (σ 1 5) (σ 1 7) (t + 1)) := by rw [g_mn, if_neg hc]
      rw [em] at hi
      exact hi
theorem mn_0 (f : Nat → Nat) : g_mn f 0 = (0, f 0) := by rw [g_mn]
theorem nx_c0 {σ : Sto} (hI : g_In σ) (what cells : Int32) : ∃ H', fX3_next_l53 300 what cells 0 25 0 σ = some (g_na what (g_mn (g_wo cells (σ 1 5) (σ 1 7)) 23), setS σ 15 H') := by
  obtain ⟨H1, e1⟩ := lw_a hI cells (fr := 0) (by decide) (σ 15)
  obtain ⟨H2, hi⟩ := nx_c hI what cells 23 299 0 H1 (by decide) (by decide)
  refine ⟨H2, ?_⟩
  have hle := wo_le cells (σ 1 5) (σ 1 7) 0
  have es : setS σ 15 (σ 15) = σ := by
    funext a i
    rw [setS_app]
    split
    · rename_i h
      rw [h]
    · rfl
  have z0 : (0 : Int32) = nI 0 := rfl
  rw [es] at e1
  rw [mn_0] at hi
  dsimp only at hi
  rw [fX3_next_l53, if_neg (show ¬ (24 : Int32) ≤ 0 by decide), z0, e1, Option.bind_some]
  unfold fX3_next_b83
  simp only [nI_1]
  rw [if_neg (show ¬ (25 : Int32) ≤ nI (g_wo cells (σ 1 5) (σ 1 7) 0) from nI_ge (b := 25) (by omega) (by decide))]
  exact hi
theorem nx_m0 {σ : Sto} (hI : g_In σ) (what cells : Int32) : ∃ H', fX4_next__l50 300 what cells (-9) 99 0 σ = some (g_na what (g_mn (g_wo cells (σ 1 5) (σ 1 7)) 23), setS σ 28 H') := by
  obtain ⟨H1, e1⟩ := wf_a hI cells (fr := 0) (by decide) (σ 28)
  obtain ⟨H2, hi⟩ := nx_m hI what cells 23 299 0 H1 (by decide) (by decide)
  refine ⟨H2, ?_⟩
  have hle := wo_le cells (σ 1 5) (σ 1 7) 0
  have es : setS σ 28 (σ 28) = σ := by
    funext a i
    rw [setS_app]
    split
    · rename_i h
      rw [h]
    · rfl
  have z0 : (0 : Int32) = nI 0 := rfl
  rw [es] at e1
  rw [mn_0] at hi
  dsimp only at hi
  rw [fX4_next__l50, if_neg (show ¬ (24 : Int32) ≤ 0 by decide), z0, e1, Option.bind_some]
  unfold fX4_next__b83
  simp only [nI_1]
  rw [if_pos (show nI (g_wo cells (σ 1 5) (σ 1 7) 0) < 99 from nI_lt (b := 99) (by omega) (by decide))]
  exact hi
theorem Sc_set {σ : Sto} {k : Nat} (hk : k = 15 ∨ k = 28) (H : Nat → Int32) : g_Sc σ (setS σ k H) := by
  refine ⟨fun a ha => ?_, fun j hj => ?_, fun j hj => ?_, fun hz => ?_⟩
  · unfold g_sr at ha
    exact setS_ne (by omega)
  · rw [setS_ne (by omega)]
  · rw [setS_ne (by omega)]
  · unfold g_Zm at *
    rw [setS_ne (by omega), setS_ne (by omega), setS_ne (by omega), setS_ne (by omega)]
    exact hz
def g_nx (what : Int32) (σ : Sto) : Int32 := if g_cy σ (σ 1 5) (σ 1 7) = 0 then -9 else g_na what (g_mn (g_wo (g_cy σ (σ 1 5) (σ 1 7)) (σ 1 5) (σ 1 7)) 23)
theorem Sc_cy {σ τ : Sto} (h : g_Sc σ τ) (l t : Int32) : g_cy τ l t = g_cy σ l t := by
  unfold g_cy g_ts
  rw [h.1 12 (by decide), h.1 13 (by decide), h.1 11 (by decide)]
theorem ok_next (a : Int32) : g_Ok (fX3_next a) (fX4_next_ a) := by
  by_cases h : 0 ≤ a ∧ a < 2
  · have h5 : a ≤ 1 := n_lt 2 1 (by decide) (by decide) h (by decide)
    have i0 : inb 0 4 = true := by decide
    have i2 : inb 2 4 = true := by decide
    have c0 : (0 : Int32).toNatClampNeg = 0 := by decide
    have c2 : (2 : Int32).toNatClampNeg = 2 := by decide
    refine ok_query (g_nx a) (fun σ hI => ?_) (fun σ hI => ?_) (fun σ τ hI hS => ?_)
    · by_cases hc : g_cy σ (σ 1 5) (σ 1 7) = 0
      · refine ⟨σ, ?_, Sc_refl σ⟩
        unfold fX3_next g_nx
        rw [isNot_in _ h.1 h.2, Option.bind_some, if_pos rfl, cy_c (In_Sa hI), Option.bind_some, if_pos hc, if_pos hc]
      · obtain ⟨H, e⟩ := nx_c0 hI a (g_cy σ (σ 1 5) (σ 1 7))
        refine ⟨_, ?_, Sc_set (Or.inl rfl) H⟩
        unfold fX3_next g_nx
        rw [isNot_in _ h.1 h.2, Option.bind_some, if_pos rfl, cy_c (In_Sa hI), Option.bind_some, if_neg hc, if_neg hc]
        exact e
    · have hr := he_rng hI
      have hm := he_M hI
      by_cases hc : g_cy σ (σ 1 5) (σ 1 7) = 0
      · refine ⟨σ, ?_, Sc_refl σ⟩
        unfold fX4_next_ g_nx
        rw [isIn_in _ h.1 h5, Option.bind_some, if_neg (show ¬ (1 : Int32) = 0 by decide), if_pos i0, if_pos i2, c0, c2]
        dsimp only
        rw [hm.1, hm.2, my_m (In_Sa hI) hr.1.1 hr.1.2 hr.2.1 hr.2.2, Option.bind_some, if_pos hc, if_pos hc]
      · obtain ⟨H, e⟩ := nx_m0 hI a (g_cy σ (σ 1 5) (σ 1 7))
        refine ⟨_, ?_, Sc_set (Or.inr rfl) H⟩
        unfold fX4_next_ g_nx
        rw [isIn_in _ h.1 h5, Option.bind_some, if_neg (show ¬ (1 : Int32) = 0 by decide), if_pos i0, if_pos i2, c0, c2]
        dsimp only
        rw [hm.1, hm.2, my_m (In_Sa hI) hr.1.1 hr.1.2 hr.2.1 hr.2.2, Option.bind_some, if_neg hc, if_neg hc]
        exact e
    · unfold g_nx
      rw [hS.1 1 (by decide), Sc_cy hS]
  · intro σ hI
    have h2 : ¬ (0 ≤ a ∧ a ≤ 1) := by grind
    exact ⟨-2, g_rf 2 σ, g_rm 2 (g_rf 2 σ), by simp only [fX3_next, isNot_out _ h, Option.bind_some, eq_self, if_true, if_false, i10, i01, m10, m20, m40, m60, m90, refuse_2], by simp only [fX4_next_, isIn_out _ h2, Option.bind_some, eq_self, if_true, if_false, i10, i01, m10, m20, m40, m60, m90, no_2], In_rf 2 hI⟩

