/-! the pure part, 13: the ROW looked at; EVENINGS -/
def g_wr (r : Nat → Int32) : Nat → Nat → BS → Option Nat
  | 0, _, _ => none
  | m + 1, v, B => if (bStroke B (B.1 3)).1 2 = r v then g_wr r m (v + 1) (bStroke B (B.1 3)) else some v
def g_we (r : Nat → Int32) : Nat → Nat → BS → BS
  | 0, _, B => B
  | m + 1, v, B => if (bStroke B (B.1 3)).1 2 = r v then g_we r m (v + 1) (bStroke B (B.1 3)) else bStroke B (B.1 3)
theorem hs_ok {B : BS} (hB : okB B) : okB (bStroke B (B.1 3)) := bStroke_ok hB hB.2.2.2.1.1 hB.2.2.2.1.2
theorem we_ok (r : Nat → Int32) : ∀ m v B, okB B → okB (g_we r m v B) := by
  intro m
  induction m with
  | zero => exact fun v B h => h
  | succ m ih =>
    intro v B hB
    unfold g_we
    split
    · exact ih _ _ (hs_ok hB)
    · exact hs_ok hB
theorem wr_lt (r : Nat → Int32) : ∀ m v B k, g_wr r m v B = some k → k < v + m := by
  intro m
  induction m with
  | zero =>
    intro v B k h
    cases h
  | succ m ih =>
    intro v B k h
    unfold g_wr at h
    split at h
    · have := ih _ _ _ h
      omega
    · cases h
      omega
theorem ut_cl (σ : Sto) (N : Nat) (hN : N ≤ 20) (h9 : σ 0 9 = nI N) : ∀ m n v B, m < n → v + m = N → okB B → fX3_firstUntrue_l21 n (nI v) (putB σ 5 B) = some (g_opt (-9) (g_wr (σ 14) m v B), putB σ 5 (g_we (σ 14) m v B)) := by
  intro m
  induction m with
  | zero =>
    intro n v B hn hv hB
    obtain ⟨n, rfl⟩ : ∃ q, n = q + 1 := ⟨n - 1, by omega⟩
    rw [fX3_firstUntrue_l21, putB_ne _ _ _ (by decide) (by decide), h9, if_pos (nI_le (by omega) (by omega))]
    rfl
  | succ m ih =>
    intro n v B hn hv hB
    obtain ⟨n, rfl⟩ : ∃ q, n = q + 1 := ⟨n - 1, by omega⟩
    have es := strokeOn_eq σ 5 B hB.2.2.2.1.1 hB.2.2.2.1.2 hB.2.2.1.1 hB.2.2.1.2
    have e14 : putB σ 5 (bStroke B (B.1 3)) 14 = σ 14 := putB_ne _ _ _ (by decide) (by decide)
    rw [fX3_firstUntrue_l21, putB_ne _ _ _ (by decide) (by decide), h9, if_neg (nI_ge (by omega) (by omega)), if_neg (show ¬ (20 : Int32) ≤ nI (v) from nI_ge (b := 20) (by omega) (by decide)), putB_k, es, Option.bind_some, if_pos (inb_nI (by omega) (by decide))]
    simp only [putB_k, e14, nI_clamp (show v < 2 ^ 31 by omega), nI_1]
    unfold g_wr g_we
    by_cases hc : (bStroke B (B.1 3)).1 2 = σ 14 v
    · rw [if_pos hc, if_pos hc, if_pos hc]
      exact ih n (v + 1) _ (by omega) (by omega) (hs_ok hB)
    · rw [if_neg hc, if_neg hc, if_neg hc]
      rfl
theorem ut_c (σ : Sto) (N : Nat) (hN : N ≤ 20) (h9 : σ 0 9 = nI N) (hn : okB (g_nw σ)) {X : BS} (hX : okB X) {k : Int32} (k0 : 0 ≤ k) (k1 : k ≤ 5) : ∃ Y, okB Y ∧ fX3_firstUntrue k (putB σ 5 X) = some (g_opt (-9) (g_wr (σ 14) N 0 (upd (g_nw σ).1 1 k, (g_nw σ).2)), putB σ 5 Y) := by
  have hk := okB_up1 hn k0 k1
  refine ⟨_, we_ok (σ 14) N 0 _ hk, ?_⟩
  have e := ut_cl σ N hN h9 N 300 0 _ (by omega) (by omega) hk
  rw [nI_0] at e
  unfold fX3_firstUntrue
  rw [take51 hn hX, Option.bind_some, putB_up]
  exact e
theorem wb_l (τ : Sto) (N : Nat) (hN : N ≤ 20) (h9 : τ 17 25 = nI N) : ∀ m n v B, m + 1 < n → v + m = N → okB B → fX4_wrongBy_l16 n (-9) (nI v) (putM τ B) = (fX4_passesAll 1 0 (putM τ (g_we (τ 29) m v B))).bind fun q => some (g_opt (-9) (g_wr (τ 29) m v B), q.2) := by
  intro m
  induction m with
  | zero =>
    intro n v B hn hv hB
    obtain ⟨n, rfl⟩ : ∃ q, n = q + 1 := ⟨n - 1, by omega⟩
    rw [fX4_wrongBy_l16, putM_17 _ _ (by decide), h9, if_pos (nI_le (by omega) (by omega))]
    rfl
  | succ m ih =>
    intro n v B hn hv hB
    obtain ⟨n, rfl⟩ : ∃ q, n = q + 2 := ⟨n - 2, by omega⟩
    have es := strokes_eq τ hB hB.2.2.2.1.1 hB.2.2.2.1.2
    have e29 : putM τ (bStroke B (B.1 3)) 29 = τ 29 := putM_ne _ _ (by decide)
    rw [fX4_wrongBy_l16, putM_17 _ _ (by decide), h9, if_neg (nI_ge (by omega) (by omega)), if_neg (show ¬ (0 : Int32) ≤ -9 by decide), putM_5, es, Option.bind_some, if_pos (inb_nI (by omega) (by decide))]
    simp only [putM_4, e29, nI_clamp (show v < 2 ^ 31 by omega)]
    unfold fX4_wrongBy_b55
    simp only [nI_1]
    unfold g_wr g_we
    by_cases hc : (bStroke B (B.1 3)).1 2 = τ 29 v
    · rw [if_pos hc, if_pos hc, if_pos hc]
      exact ih (n + 1) (v + 1) _ (by omega) (by omega) (hs_ok hB)
    · rw [if_neg hc, if_neg hc, if_neg hc]
      show fX4_wrongBy_l16 (n + 1) (nI v) (nI (v + 1)) (putM τ (bStroke B (B.1 3))) = _
      rw [fX4_wrongBy_l16, if_pos (nI_pos' (n := v) (by omega))]
      unfold fX4_wrongBy_b62
      split <;> rfl
theorem wb_m (τ : Sto) (N : Nat) (hN : N ≤ 20) (h9 : τ 17 25 = nI N) {B : BS} (hB : okB B) {k : Int32} (k0 : 0 ≤ k) (k1 : k ≤ 5) : ∃ υ, fX4_wrongBy k (putM τ B) = some (g_opt (-9) (g_wr (τ 29) N 0 (upd B.1 1 k, B.2)), putM υ B) ∧ g_Sk τ υ := by
  have hk := okB_up1 hB k0 k1
  obtain ⟨υ, e, h⟩ := mind_k (τ := τ) (τ' := g_sv 1 B τ) hB (we_ok (τ 29) N 0 _ hk) (fun _ => rfl)
  refine ⟨υ, ?_, h⟩
  have h9' : g_sv 1 B τ 17 25 = nI N := by
    rw [← h9]
    simp [g_sv, g_cu, upS, setS, upd]
  have e29 : g_sv 1 B τ 29 = τ 29 := by
    simp [g_sv, g_cu, upS, setS]
  have k := wb_l (g_sv 1 B τ) N hN h9' N 300 0 _ (by omega) (by omega) hk
  rw [nI_0, e29, e, Option.bind_some] at k
  unfold fX4_wrongBy
  rw [mind_save τ B, Option.bind_some, putM_u3]
  exact k
def g_rw (σ : Sto) (k : Nat) : Option Nat := g_wr (σ 14) (σ 0 9).toNatClampNeg 0 (upd (g_nw σ).1 1 (nI k), (g_nw σ).2)
theorem row_N {σ : Sto} (hI : g_In σ) : ∃ N : Nat, N ≤ 20 ∧ σ 0 9 = nI N ∧ (σ 0 9).toNatClampNeg = N := by
  obtain ⟨-, h, -⟩ := hI.2.2.2.2.2.2.2.2
  obtain ⟨N, hN, e⟩ := i32_nat 20 20 h.1 h.2 (by decide)
  exact ⟨N, hN, e, by rw [e]; exact nI_clamp (by omega)⟩
def g_kb (f : Nat → Option Nat) : Nat → Int32
  | 0 => 0
  | n + 1 => match f n with
    | none => g_kb f n ||| ishl5 1 (nI n)
    | some _ => g_kb f n
theorem kd_c {σ : Sto} (hI : g_In σ) : ∀ m n k X, m < n → k + m = 6 → okB X → ∃ Y, okB Y ∧ fX3_kinds_l4 n (g_kb (g_rw σ) k) (nI k) (putB σ 5 X) = some (g_kb (g_rw σ) 6, putB σ 5 Y) := by
  obtain ⟨N, hN, e9, ec⟩ := row_N hI
  intro m
  induction m with
  | zero =>
    intro n k X hn hk hX
    obtain ⟨n, rfl⟩ : ∃ q, n = q + 1 := ⟨n - 1, by omega⟩
    have : k = 6 := by omega
    subst this
    exact ⟨X, hX, by rw [fX3_kinds_l4, if_pos (show (6 : Int32) ≤ nI 6 by decide)]⟩
  | succ m ih =>
    intro n k X hn hk hX
    obtain ⟨n, rfl⟩ : ∃ q, n = q + 1 := ⟨n - 1, by omega⟩
    obtain ⟨Y, hY, e⟩ := ut_c σ N hN e9 hI.1 hX (k := nI k) (nI_pos' (by omega)) (nI_le (b := 5) (by omega) (by decide))
    have hi := ih n (k + 1) Y (by omega) (by omega) hY
    have ef : g_wr (σ 14) N 0 (upd (g_nw σ).1 1 (nI k), (g_nw σ).2) = g_rw σ k := by
      unfold g_rw
      rw [ec]
    rw [fX3_kinds_l4, if_neg (show ¬ (6 : Int32) ≤ nI (k) from nI_ge (b := 6) (by omega) (by decide)), e, Option.bind_some, ef]
    unfold fX3_kinds_b26
    simp only [nI_1]
    cases hf : g_rw σ k with
    | none =>
      have eb : g_kb (g_rw σ) (k + 1) = g_kb (g_rw σ) k ||| ishl5 1 (nI k) := by rw [g_kb, hf]
      rw [eb] at hi
      rw [if_pos (opt_none (-9))]
      exact hi
    | some r =>
      have hr := wr_lt _ _ _ _ _ (ef.trans hf)
      have hne : ¬ nI r = -9 := by
        have := nI_pos' (n := r) (by omega)
        grind
      have eb : g_kb (g_rw σ) (k + 1) = g_kb (g_rw σ) k := by rw [g_kb, hf]
      rw [eb] at hi
      rw [opt_some, if_neg hne]
      exact hi
def g_rwM (τ : Sto) (B : BS) (k : Nat) : Option Nat := g_wr (τ 29) (τ 17 25).toNatClampNeg 0 (upd B.1 1 (nI k), B.2)
theorem or0 (x : Int32) : x ||| 0 = x := Int32.or_zero
theorem kd_m {B : BS} (hB : okB B) (N : Nat) (hN : N ≤ 20) (r : Nat → Int32) : ∀ m n k τ, m < n → k + m = 6 → τ 17 25 = nI N → τ 29 = r → ∃ υ, g_Sk τ υ ∧ fX4_kinds_l4 n (g_kb (fun k => g_wr r N 0 (upd B.1 1 (nI k), B.2)) k) (nI k) (putM τ B) = some (g_kb (fun k => g_wr r N 0 (upd B.1 1 (nI k), B.2)) 6, putM υ B) := by
  intro m
  induction m with
  | zero =>
    intro n k τ hn hk h9 h29
    obtain ⟨n, rfl⟩ : ∃ q, n = q + 1 := ⟨n - 1, by omega⟩
    have : k = 6 := by omega
    subst this
    exact ⟨τ, Sk_refl τ, by rw [fX4_kinds_l4, if_pos (show (6 : Int32) ≤ nI 6 by decide)]⟩
  | succ m ih =>
    intro n k τ hn hk h9 h29
    obtain ⟨n, rfl⟩ : ∃ q, n = q + 1 := ⟨n - 1, by omega⟩
    obtain ⟨υ, e, hS⟩ := wb_m τ N hN h9 hB (k := nI k) (nI_pos' (by omega)) (nI_le (b := 5) (by omega) (by decide))
    obtain ⟨φ, hS2, hi⟩ := ih n (k + 1) υ (by omega) (by omega) (by rw [hS.2.1 25 (by decide) (by decide), h9]) (by rw [hS.1 29 (by decide) (by decide), h29])
    refine ⟨φ, Sk_trans hS hS2, ?_⟩
    rw [h29] at e
    rw [fX4_kinds_l4, if_neg (show ¬ (6 : Int32) ≤ nI (k) from nI_ge (b := 6) (by omega) (by decide)), e, Option.bind_some]
    unfold fX4_kinds_b26
    simp only [nI_1]
    cases hf : g_wr r N 0 (upd B.1 1 (nI k), B.2) with
    | none =>
      have eb : g_kb (fun k => g_wr r N 0 (upd B.1 1 (nI k), B.2)) (k + 1) = g_kb (fun k => g_wr r N 0 (upd B.1 1 (nI k), B.2)) k ||| ishl5 1 (nI k) := by rw [g_kb, hf]
      rw [eb] at hi
      rw [opt_none, if_neg (show ¬ (0 : Int32) ≤ -9 by decide)]
      exact hi
    | some q =>
      have hr := wr_lt _ _ _ _ _ hf
      have eb : g_kb (fun k => g_wr r N 0 (upd B.1 1 (nI k), B.2)) (k + 1) = g_kb (fun k => g_wr r N 0 (upd B.1 1 (nI k), B.2)) k := by rw [g_kb, hf]
      rw [eb] at hi
      rw [opt_some, if_pos (nI_pos' (n := q) (by omega)), or0]
      exact hi
theorem ok_kinds : g_Ok fX3_kinds fX4_kinds := by
  refine ok_query (fun σ => g_kb (g_rw σ) 6) ?_ ?_ ?_
  · intro σ hI
    obtain ⟨Y, hY, e⟩ := kd_c hI 6 300 0 (σ 5, σ 6) (by decide) (by decide) hI.2.2.2.1.1
    have g0 : g_kb (g_rw σ) 0 = 0 := rfl
    rw [putB_self, nI_0, g0] at e
    refine ⟨putB σ 5 Y, ?_, Sc_B5 hY⟩
    unfold fX3_kinds
    exact e
  · intro σ hI
    obtain ⟨N, hN, e9, ec⟩ := row_N hI
    obtain ⟨r1, -, r3⟩ := hI.2.2.2.2.2.2.2.2
    obtain ⟨υ, hS, e⟩ := kd_m hI.1 N hN (σ 29) 6 300 0 σ (by decide) (by decide) (by rw [r1, e9]) rfl
    rw [putM_id hI.2.2.1, nI_0] at e
    have ef : (fun k => g_wr (σ 29) N 0 (upd (g_nw σ).1 1 (nI k), (g_nw σ).2)) = g_rw σ := by
      funext k
      unfold g_rw
      rw [ec, r3]
    have g0 : g_kb (g_rw σ) 0 = 0 := rfl
    rw [ef, g0] at e
    refine ⟨putM υ (g_nw σ), ?_, Sc_Sm hI.2.2.1 (Sk_Sm hS)⟩
    unfold fX4_kinds
    exact e
  · intro σ τ hI hS
    have : g_rw τ = g_rw σ := by
      funext k
      unfold g_rw
      rw [Sc_nw hS, hS.1 14 (by decide), hS.1 0 (by decide)]
    simp only [this]
theorem kind_nI {σ : Sto} (hI : g_In σ) : ∃ k : Nat, k ≤ 5 ∧ σ 1 1 = nI k := by
  have := hI.1.2.1
  exact i32_nat 5 5 this.1 this.2 (by decide)
theorem ok_judge : g_Ok fX3_judge fX4_judge := by
  intro σ hI
  obtain ⟨N, hN, e9, ec⟩ := row_N hI
  have hk := hI.1.2.1
  obtain ⟨Y, hY, e⟩ := ut_c σ N hN e9 hI.1 hI.2.2.2.1.1 hk.1 hk.2
  rw [putB_self] at e
  have eu : (upd (g_nw σ).1 1 ((g_nw σ).1 1), (g_nw σ).2) = g_nw σ := by rw [updId]
  rw [eu] at e
  have m := hI.2.2.1
  obtain ⟨r1, -, r3⟩ := hI.2.2.2.2.2.2.2.2
  have s1 : fX3_judge σ = some (g_opt (-9) (g_wr (σ 14) N 0 (g_nw σ)), upS (putB σ 5 Y) 0 9 0) := by
    unfold fX3_judge
    have : σ 1 1 = (g_nw σ).1 1 := rfl
    rw [this, e, Option.bind_some]
  have em : putM (upS (putB σ 5 Y) 0 9 0) (g_nw σ) = upS (putB σ 5 Y) 0 9 0 := by
    refine putM_keep m ?_ ?_ ?_
    · rw [upS_ne (by decide), putB_ne _ _ _ (by decide) (by decide)]
    · rw [upS_ne (by decide), putB_ne _ _ _ (by decide) (by decide)]
    · rw [upS_ne (by decide), putB_ne _ _ _ (by decide) (by decide)]
  have t25 : upS (putB σ 5 Y) 0 9 0 17 25 = nI N := by
    rw [upS_ne (by decide), putB_ne _ _ _ (by decide) (by decide), r1, e9]
  have t29 : upS (putB σ 5 Y) 0 9 0 29 = σ 14 := by
    rw [upS_ne (by decide), putB_ne _ _ _ (by decide) (by decide), r3]
  obtain ⟨υ, e2, hS⟩ := wb_m (upS (putB σ 5 Y) 0 9 0) N hN t25 hI.1 hk.1 hk.2
  rw [eu, em, t29] at e2
  have s2 : fX4_judge (upS (putB σ 5 Y) 0 9 0) = some (g_opt (-9) (g_wr (σ 14) N 0 (g_nw σ)), putM (upS υ 17 25 0) (g_nw σ)) := by
    unfold fX4_judge
    have t3 : upS (putB σ 5 Y) 0 9 0 17 3 = (g_nw σ).1 1 := by
      rw [upS_ne (by decide), putB_ne _ _ _ (by decide) (by decide), m.1]
      rfl
    rw [t3, e2, Option.bind_some, putM_up7 _ _ _ (by decide)]
  refine ⟨_, _, _, s1, s2, ?_⟩
  -- between calls again: first the row emptied on both sides, then what was done in mind
  have hA : g_In (upS (upS (putB σ 5 Y) 0 9 0) 17 25 0) := by
    have hB := Sc_inv (Sc_B5 hY) hI
    refine In_ro hB ?_ ?_ ?_ ?_
    · intro a ha
      rw [upS_ne (by omega), upS_ne (by omega)]
    · intro j hj
      simp [upS, upd, hj.1]
    · intro j hj
      simp [upS, upd, hj]
    · refine ⟨by simp [upS, upd], ?_, ?_⟩
      · have : upS (upS (putB σ 5 Y) 0 9 0) 17 25 0 0 9 = 0 := by simp [upS, upd]
        rw [this]
        decide
      · rw [upS_ne (by decide), upS_ne (by decide), upS_ne (by decide), upS_ne (by decide), putB_ne _ _ _ (by decide) (by decide), putB_ne _ _ _ (by decide) (by decide), r3]
  have hS' : g_Sm (upS (upS (putB σ 5 Y) 0 9 0) 17 25 0) (upS υ 17 25 0) := by
    have h := Sk_Sm hS
    refine ⟨fun a a1 a2 a3 a4 a5 a6 => ?_, fun j hj => ?_, fun j hj => ?_⟩
    · rw [upS_ne a1, upS_ne a1]
      exact h.1 a a1 a2 a3 a4 a5 a6
    · rw [upS_app, upS_app]
      split
      · rfl
      · exact h.2.1 j hj
    · rw [upS_ne (by decide), upS_ne (by decide)]
      exact h.2.2 j hj
  have hM := Sc_Sm hA.2.2.1 hS'
  have enw : g_nw (upS (upS (putB σ 5 Y) 0 9 0) 17 25 0) = g_nw σ := by
    unfold g_nw
    rw [upS_ne (by decide), upS_ne (by decide), upS_ne (by decide), upS_ne (by decide), putB_ne _ _ _ (by decide) (by decide), putB_ne _ _ _ (by decide) (by decide)]
  rw [enw] at hM
  exact Sc_inv hM hA
-- EVENINGS
def g_nz (z : Int32) : Int32 := z * 1664525 + 1013904223
def g_pl (z : Int32) : Int32 := irm ((z &&& 2147483647) / 256) 24
theorem pl_nI (z : Int32) : ∃ c : Nat, c < 24 ∧ g_pl z = nI c := by
  obtain ⟨j, hj, e⟩ := pk_andE z (m := 2147483647) 31 (by decide)
  unfold g_pl
  have e1 : nI j / 256 = nI (j / 256) := pk_div (d := 256) (by omega) (by decide) (by decide)
  have e2 : irm (nI (j / 256)) 24 = nI (j / 256 % 24) := irm_nI (d := 24) (by omega) (by decide) (by decide)
  rw [e, e1, e2]
  exact ⟨_, Nat.mod_lt _ (by decide), rfl⟩
def g_ev (B : BS) (z : Int32) : BS := (upd (upd B.1 3 0) 2 (g_pl z), B.2)
theorem ev_ok {B : BS} (hB : okB B) (z : Int32) : okB (g_ev B z) := by
  obtain ⟨c, hc, e⟩ := pl_nI z
  unfold g_ev
  rw [e]
  exact okB_up2 (B := (upd B.1 3 0, B.2)) (okB_up3 hB (by decide) (by decide)) (nI_pos' (by omega)) (nI_le (b := 24) (by omega) (by decide))
def g_es (rd : Int32) (B : BS) : Nat → Int32 → Nat
  | 0, _ => 0
  | m + 1, z => (g_fo rd (g_ev B (g_nz z))).getD 40 + g_es rd B m (g_nz z)
theorem es_le (rd : Int32) (B : BS) : ∀ m z, g_es rd B m z ≤ m * 40 := by
  intro m
  induction m with
  | zero => intro z; exact Nat.zero_le _
  | succ m ih =>
    intro z
    have h1 := ih (g_nz z)
    have h2 : (g_fo rd (g_ev B (g_nz z))).getD 40 ≤ 40 := getD_le (fun _ h => fo_le h) (Nat.le_refl _)
    unfold g_es
    omega
theorem ev_c {rd : Int32} (r0 : 0 ≤ rd) (r1 : rd ≤ 5) (σ : Sto) (hN : okB (g_nw σ)) (N : Nat) (hn20 : N ≤ 20) : ∀ m n v z a X, m < n → v + m = N → a ≤ v * 40 → okB X → ∃ Y, okB Y ∧ fX3_evenings_l50 n rd (nI N) z (nI a) (nI v) (putB σ 5 X) = some (nI (a + g_es rd (g_nw σ) m z), putB σ 5 Y) := by
  intro m
  induction m with
  | zero =>
    intro n v z a X hn hv ha hX
    obtain ⟨n, rfl⟩ : ∃ q, n = q + 1 := ⟨n - 1, by omega⟩
    have g0 : g_es rd (g_nw σ) 0 z = 0 := by rw [g_es]
    exact ⟨X, hX, by rw [fX3_evenings_l50, if_pos (nI_le (by omega) (by omega)), g0, Nat.add_zero]⟩
  | succ m ih =>
    intro n v z a X hn hv ha hX
    obtain ⟨n, rfl⟩ : ∃ q, n = q + 1 := ⟨n - 1, by omega⟩
    have hk := ev_ok hN (g_nz z)
    have e := follow_c r0 r1 σ (g_ev (g_nw σ) (g_nz z)) hk
    have hd : (g_fo rd (g_ev (g_nw σ) (g_nz z))).getD 40 ≤ 40 := getD_le (fun _ h => fo_le h) (Nat.le_refl _)
    obtain ⟨Y, hY, hi⟩ := ih n (v + 1) (g_nz z) (a + (g_fo rd (g_ev (g_nw σ) (g_nz z))).getD 40) _ (by omega) (by omega) (by omega) (follow_ok r0 r1 hk)
    refine ⟨Y, hY, ?_⟩
    have em := opt_min (o := g_fo rd (g_ev (g_nw σ) (g_nz z))) (fun r hr => fo_le hr)
    have ep : irm (((z * 1664525 + 1013904223) &&& 2147483647) / 256) 24 = g_pl (g_nz z) := by unfold g_pl g_nz; rfl
    have en : z * 1664525 + 1013904223 = g_nz z := by unfold g_nz; rfl
    have e0 : upS (upS (putB σ 5 (g_nw σ)) 5 3 0) 5 2 (g_pl (g_nz z)) = putB σ 5 (g_ev (g_nw σ) (g_nz z)) := by
      rw [putB_up, putB_up]
      unfold g_ev
      rfl
    rw [fX3_evenings_l50, if_neg (nI_ge (by omega) (by omega)), take51 hN hX, Option.bind_some, ep, en]
    simp only [e0]
    unfold fX3_evenings_b104
    have e' : fX0_followBy 5 rd (putB σ 5 (g_ev (g_nw σ) (g_nz z))) = some (g_opt 41 (g_fo rd (g_ev (g_nw σ) (g_nz z))), putB σ 5 (g_end (g_rd rd) 40 0 (g_ev (g_nw σ) (g_nz z)))) := e
    rw [e', Option.bind_some]
    simp only [em, nI_add, nI_1]
    have es : a + g_es rd (g_nw σ) (m + 1) z = a + (g_fo rd (g_ev (g_nw σ) (g_nz z))).getD 40 + g_es rd (g_nw σ) m (g_nz z) := by
      rw [g_es, Nat.add_assoc]
    rw [es]
    exact hi
theorem ev_id (A : Nat → Int32) (x y z w : Int32) : upd (upd (upd (upd A 2 x) 3 y) 2 z) 3 w = upd (upd A 3 w) 2 z := by
  funext j
  unfold upd
  by_cases h2 : j = 2
  · subst h2
    simp
  · by_cases h3 : j = 3
    · subst h3
      simp
    · simp [h2, h3]
theorem ev_co (A : Nat → Int32) (z w : Int32) : upd (upd A 3 w) 2 z = upd (upd A 2 z) 3 w := by
  funext j
  unfold upd
  by_cases h2 : j = 2
  · subst h2
    simp
  · by_cases h3 : j = 3
    · subst h3
      simp
    · simp [h2, h3]
theorem ev_m {rd : Int32} (r0 : 0 ≤ rd) (r1 : rd ≤ 5) {B : BS} (hB : okB B) (N : Nat) (hn20 : N ≤ 20) : ∀ m n v z a τ x y, m < n → v + m = N → a ≤ v * 40 → (∀ o, o < 32 → τ 25 (70 + o) = encB B o) → ∃ υ, g_Sk τ υ ∧ fX4_evenings_l50 n rd (nI N) z (nI a) (nI v) (putM τ (upd (upd B.1 2 x) 3 y, B.2)) = some (nI (a + g_es rd B m z), putM (g_cu υ 0 102) B) := by
  intro m
  induction m with
  | zero =>
    intro n v z a τ x y hn hv ha hk
    obtain ⟨n, rfl⟩ : ∃ q, n = q + 1 := ⟨n - 1, by omega⟩
    refine ⟨τ, Sk_refl τ, ?_⟩
    have e := passes_back 2 (by decide) τ (upd (upd B.1 2 x) 3 y, B.2) B (by simpa using hk) (fun j hj => rfl)
    have z2 : nI 2 = (2 : Int32) := rfl
    rw [z2] at e
    have g0 : g_es rd B 0 z = 0 := by rw [g_es]
    rw [fX4_evenings_l50, if_pos (nI_le (by omega) (by omega)), e, Option.bind_some, g0]
    rfl
  | succ m ih =>
    intro n v z a τ x y hn hv ha hk
    obtain ⟨n, rfl⟩ : ∃ q, n = q + 1 := ⟨n - 1, by omega⟩
    have hok := ev_ok hB (g_nz z)
    obtain ⟨υ, e, hS⟩ := follow_m r0 r1 τ hok
    have hd : (g_fo rd (g_ev B (g_nz z))).getD 40 ≤ 40 := getD_le (fun _ h => fo_le h) (Nat.le_refl _)
    obtain ⟨φ, hS2, hi⟩ := ih n (v + 1) (g_nz z) (a + (g_fo rd (g_ev B (g_nz z))).getD 40) υ (g_pl (g_nz z)) 0 (by omega) (by omega) (by omega) (fun o ho => by rw [hS.2.2 (70 + o) (Or.inr (by omega))]; exact hk o ho)
    refine ⟨φ, Sk_trans hS hS2, ?_⟩
    have ep : irm (((z * 1664525 + 1013904223) &&& 2147483647) / 256) 24 = g_pl (g_nz z) := by unfold g_pl g_nz; rfl
    have en : z * 1664525 + 1013904223 = g_nz z := by unfold g_nz; rfl
    have e0 : upS (upS (putM τ (upd (upd B.1 2 x) 3 y, B.2)) 17 4 (g_pl (g_nz z))) 17 5 0 = putM τ (g_ev B (g_nz z)) := by
      rw [putM_u4, putM_u5]
      simp only [ev_id]
      unfold g_ev
      rfl
    rw [fX4_evenings_l50, if_neg (nI_ge (by omega) (by omega)), ep, en]
    simp only [e0]
    unfold fX4_evenings_b87
    have eo := opt_else (o := g_fo rd (g_ev B (g_nz z))) (fun r hr => fo_le hr) 40 (putM υ (g_ev B (g_nz z)))
    have z40 : nI 40 = (40 : Int32) := rfl
    rw [z40] at eo
    have e' : fX4_followBy rd (putM τ (g_ev B (g_nz z))) = some (g_opt (-9) (g_fo rd (g_ev B (g_nz z))), putM υ (g_ev B (g_nz z))) := e
    rw [e', Option.bind_some, eo, Option.bind_some]
    simp only [nI_add, nI_1]
    have es : a + g_es rd B (m + 1) z = a + (g_fo rd (g_ev B (g_nz z))).getD 40 + g_es rd B m (g_nz z) := by
      rw [g_es, Nat.add_assoc]
    have eb : g_ev B (g_nz z) = (upd (upd B.1 2 (g_pl (g_nz z))) 3 0, B.2) := by
      have e1 : upd (upd B.1 3 0) 2 (g_pl (g_nz z)) = upd (upd B.1 2 (g_pl (g_nz z))) 3 0 := ev_co _ _ _
      unfold g_ev
      rw [e1]
    have e9 : putM υ (g_ev B (g_nz z)) = putM υ (upd (upd B.1 2 (g_pl (g_nz z))) 3 0, B.2) := congrArg (putM υ) eb
    rw [es, e9]
    exact hi
def g_Sw (σ τ : Sto) : Prop := (∀ a, a ≠ 17 → a ≠ 25 → τ a = σ a) ∧ (∀ j, j ≠ 16 → j ≠ 17 → τ 17 j = σ 17 j) ∧ (∀ j, j < 35 → τ 25 j = σ 25 j)
theorem Sc_put' {σ τ : Sto} (B : BS) (h : g_Sw σ τ) : g_Sc (putM σ B) (putM τ B) := by
  have f1 : ∀ a, a ≠ 17 → a ≠ 25 → putM τ B a = putM σ B a := by
    intro a a1 a5
    exact putM_at (σ := σ) _ a1 (h.1 a a1 a5)
  refine ⟨fun a ha => ?_, fun j hj => ?_, fun j hj => ?_, fun hz => ?_⟩
  · unfold g_sr at ha
    exact f1 a (by omega) (by omega)
  · unfold g_sf at hj
    exact putM_at7 (σ := σ) _ (h.2.1 j (by omega) (by omega))
  · rw [putM_ne _ _ (by decide), putM_ne _ _ (by decide)]
    exact h.2.2 j hj
  · unfold g_Zm at *
    rw [f1 5 (by decide) (by decide), f1 6 (by decide) (by decide), f1 7 (by decide) (by decide), f1 8 (by decide) (by decide)]
    exact hz
theorem ok_evenings (rd c z : Int32) : g_Ok (fX3_evenings rd c z) (fX4_evenings rd c z) := by
  by_cases h : 0 ≤ rd ∧ rd < 6
  · have h5 : rd ≤ 5 := n_lt 6 5 (by decide) (by decide) h (by decide)
    by_cases k0 : 1 ≤ c
    · by_cases k1 : c ≤ 20
      · obtain ⟨N, hN, rfl⟩ := i32_nat 20 20 (Int32.le_trans (by decide) k0) k1 (by decide)
        refine ok_query (fun σ => nI (g_es rd (g_nw σ) N z)) (c_query (v := fun B => nI (g_es rd B N z)) ?_) ?_ ?_
        · intro σ hn hX
          obtain ⟨Y, h1, h2⟩ := ev_c h.1 h5 σ hn N hN N 300 0 z 0 (σ 5, σ 6) (by omega) (by omega) (by omega) hX
          refine ⟨Y, ?_, h1⟩
          rw [putB_self, nI_0, Nat.zero_add] at h2
          unfold fX3_evenings
          rw [isNot_in _ h.1 h.2, Option.bind_some, if_pos rfl, if_pos k0, if_pos k1]
          exact h2
        · intro σ hI
          have hs := passes_save 2 (by decide) σ (g_nw σ)
          obtain ⟨υ, hS, e⟩ := ev_m h.1 h5 hI.1 N hN N 300 0 z 0 (g_sv 2 (g_nw σ) σ) ((g_nw σ).1 2) ((g_nw σ).1 3) (by omega) (by omega) (by omega) (fun o ho => by have := sv_kept 2 (g_nw σ) σ o ho; simpa using this)
          rw [updId, updId, nI_0, Nat.zero_add] at e
          have z2 : nI 2 = (2 : Int32) := rfl
          rw [z2, putM_id hI.2.2.1] at hs
          refine ⟨putM (g_cu υ 0 102) (g_nw σ), ?_, ?_⟩
          · unfold fX4_evenings fX4_evenings_b21
            rw [isIn_in _ h.1 h5, Option.bind_some, if_neg (show ¬ (1 : Int32) = 0 by decide), bound_in _ k0 k1, Option.bind_some, if_pos rfl, hs, Option.bind_some]
            exact e
          · have hw : g_Sw σ (g_cu υ 0 102) := by
              refine ⟨fun a a1 a5 => ?_, fun j h1 h2 => ?_, fun j hj => ?_⟩
              · have e1 : g_cu υ 0 102 a = υ a := by simp [g_cu, upS, a1]
                have e2 : g_sv 2 (g_nw σ) σ a = σ a := by simp [g_sv, g_cu, upS, setS, a1, a5]
                rw [e1, hS.1 a a1 a5, e2]
              · have e1 : g_cu υ 0 102 17 j = υ 17 j := by simp [g_cu, upS, upd, h1, h2]
                have e2 : g_sv 2 (g_nw σ) σ 17 j = σ 17 j := by simp [g_sv, g_cu, upS, upd, setS, h1, h2]
                rw [e1, hS.2.1 j h1 h2, e2]
              · have e1 : g_cu υ 0 102 25 j = υ 25 j := by simp [g_cu, upS]
                have n2 : ¬ (70 ≤ j ∧ j < 102) := by omega
                have e2 : g_sv 2 (g_nw σ) σ 25 j = σ 25 j := by simp [g_sv, g_cu, upS, setS, n2]
                rw [e1, hS.2.2 j (Or.inl hj), e2]
            have := Sc_put' (g_nw σ) hw
            rw [putM_id hI.2.2.1] at this
            exact this
        · intro σ τ hI hS
          simp only [Sc_nw hS]
      · intro σ hI
        exact ⟨-6, g_rf 6 σ, g_rm 6 (g_rf 6 σ), by simp only [fX3_evenings, isNot_in _ h.1 h.2, k0, k1, Option.bind_some, eq_self, if_true, if_false, i10, i01, m10, m20, m40, m60, m90, refuse_6], by simp only [fX4_evenings, fX4_evenings_b21, isIn_in _ h.1 h5, bound_hi _ k0 k1, Option.bind_some, eq_self, if_true, if_false, i10, i01, m10, m20, m40, m60, m90, no_6], In_rf 6 hI⟩
    · intro σ hI
      exact ⟨-4, g_rf 4 σ, g_rm 4 (g_rf 4 σ), by simp only [fX3_evenings, isNot_in _ h.1 h.2, k0, Option.bind_some, eq_self, if_true, if_false, i10, i01, m10, m20, m40, m60, m90, refuse_4], by simp only [fX4_evenings, fX4_evenings_b21, isIn_in _ h.1 h5, bound_lo _ k0, Option.bind_some, eq_self, if_true, if_false, i10, i01, m10, m20, m40, m60, m90, no_4], In_rf 4 hI⟩
  · intro σ hI
    have h2 : ¬ (0 ≤ rd ∧ rd ≤ 5) := by grind
    exact ⟨-2, g_rf 2 σ, g_rm 2 (g_rf 2 σ), by simp only [fX3_evenings, isNot_out _ h, Option.bind_some, eq_self, if_true, if_false, i10, i01, m10, m20, m40, m60, m90, refuse_2], by simp only [fX4_evenings, fX4_evenings_b21, isIn_out _ h2, Option.bind_some, eq_self, if_true, if_false, i10, i01, m10, m20, m40, m60, m90, no_2], In_rf 2 hI⟩

