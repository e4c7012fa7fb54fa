/-! the pure part, 11: SPEAK -/
def g_mn (f : Nat → Nat) : Nat → Nat × Nat
  | 0 => (0, f 0)
  | t + 1 => if (g_mn f t).2 ≤ f (t + 1) then g_mn f t else (t + 1, f (t + 1))
theorem mn_le {f : Nat → Nat} {K : Nat} (h : ∀ n, f n ≤ K) : ∀ t, (g_mn f t).1 ≤ t ∧ (g_mn f t).2 ≤ K := by
  intro t
  induction t with
  | zero => exact ⟨Nat.le_refl _, h 0⟩
  | succ t ih =>
    unfold g_mn
    split
    · exact ⟨by omega, ih.2⟩
    · exact ⟨Nat.le_refl _, h _⟩
def g_hb (B : BS) (b l : Nat) : BS := (upd (upd B.1 6 (nI b)) 7 (nI l), B.2)
theorem hb_ok {B : BS} (hB : okB B) {b l : Nat} (b1 : 1 ≤ b) (b3 : b ≤ 3) (l2 : 2 ≤ l) (l5 : l ≤ 5) : okB (g_hb B b l) := by
  have h1 : okB (upd B.1 6 (nI b), B.2) := okB_he hB (Or.inr (Or.inl ⟨rfl, rfl, rfl⟩)) (nI_le (a := 1) b1 (by omega)) (nI_le (b := 3) b3 (by decide))
  exact okB_he (B := (upd B.1 6 (nI b), B.2)) h1 (Or.inr (Or.inr (Or.inl ⟨rfl, rfl, rfl⟩))) (nI_le (a := 2) l2 (by omega)) (nI_le (b := 5) l5 (by decide))
def g_fh (rd : Int32) (B : BS) (t : Nat) : Nat := (g_fo rd (g_hb B (1 + t / 4) (2 + t % 4))).getD 41
theorem fh_le (rd : Int32) (B : BS) : ∀ t, g_fh rd B t ≤ 41 := fun _ => getD_le (fun _ h => fo_le h) (by decide)
def g_co (t : Nat) : Nat := 10 * (1 + t / 4) + (2 + t % 4)
theorem sp_step {rd : Int32} (r0 : 0 ≤ rd) (r1 : rd ≤ 5) (σ : Sto) (hN : okB (g_nw σ)) (k33 : Int32 → Int32 → Int32 → Int32 → Int32 → Sto → Option (Int32 × Sto)) (what v3 v4 : Int32) (n b l : Nat) (b1 : 1 ≤ b) (b3 : b ≤ 3) (l2 : 2 ≤ l) (l5 : l ≤ 5) (X : BS) (hX : okB X) : ∃ Y, okB Y ∧ fX3_speak_l42 k33 (n + 1) rd what v3 v4 (nI b) (nI l) (putB σ 5 X) = if v4 ≤ nI ((g_fo rd (g_hb (g_nw σ) b l)).getD 41) then fX3_speak_l42 k33 n rd what v3 v4 (nI b) (nI (l + 1)) (putB σ 5 Y) else fX3_speak_l42 k33 n rd what (nI (10 * b + l)) (nI ((g_fo rd (g_hb (g_nw σ) b l)).getD 41)) (nI b) (nI (l + 1)) (putB σ 5 Y) := by
  have hk := hb_ok hN b1 b3 l2 l5
  have e := follow_c r0 r1 σ (g_hb (g_nw σ) b l) hk
  refine ⟨_, follow_ok r0 r1 hk, ?_⟩
  have h5 : ¬ (5 : Int32) < nI l := nI_nlt (a := 5) l5 (by decide)
  rw [fX3_speak_l42, if_neg h5, take51 hN hX, Option.bind_some]
  have e2 : upS (upS (putB σ 5 (g_nw σ)) 5 6 (nI b)) 5 7 (nI l) = putB σ 5 (g_hb (g_nw σ) b l) := by
    rw [putB_up, putB_up]
    rfl
  simp only [e2]
  unfold fX3_speak_b77 fX3_speak_b107
  have e3 : g_opt 41 (g_run (g_rd rd) 40 0 (g_hb (g_nw σ) b l)) = nI ((g_fo rd (g_hb (g_nw σ) b l)).getD 41) := opt_41
  rw [e3] at e
  rw [e, Option.bind_some]
  have e4 : (10 : Int32) * nI b + nI l = nI (10 * b + l) := by
    have : (10 : Int32) = nI 10 := rfl
    rw [this, pk_mul, nI_add]
  simp only [nI_1, e4]
theorem sp_in {rd : Int32} (r0 : 0 ≤ rd) (r1 : rd ≤ 5) (σ : Sto) (hN : okB (g_nw σ)) (k33 : Int32 → Int32 → Int32 → Int32 → Int32 → Sto → Option (Int32 × Sto)) (what : Int32) (b : Nat) (b1 : 1 ≤ b) (b3 : b ≤ 3) : ∀ j n l t X, j < n → l + j = 6 → 2 ≤ l → t + 1 = 4 * (b - 1) + (l - 2) → okB X → ∃ Y, okB Y ∧ fX3_speak_l42 k33 n rd what (nI (g_co (g_mn (g_fh rd (g_nw σ)) t).1)) (nI (g_mn (g_fh rd (g_nw σ)) t).2) (nI b) (nI l) (putB σ 5 X) = k33 rd what (nI (g_co (g_mn (g_fh rd (g_nw σ)) (t + j)).1)) (nI (g_mn (g_fh rd (g_nw σ)) (t + j)).2) (nI (b + 1)) (putB σ 5 Y) := by
  intro j
  induction j with
  | zero =>
    intro n l t X hn hl h2 ht hX
    obtain ⟨n, rfl⟩ : ∃ q, n = q + 1 := ⟨n - 1, by omega⟩
    have : l = 6 := by omega
    subst this
    refine ⟨X, hX, ?_⟩
    rw [fX3_speak_l42, if_pos (show (5 : Int32) < nI 6 by decide), nI_1]
    rfl
  | succ j ih =>
    intro n l t X hn hl h2 ht hX
    obtain ⟨n, rfl⟩ : ∃ q, n = q + 1 := ⟨n - 1, by omega⟩
    obtain ⟨Y, hY, e⟩ := sp_step r0 r1 σ hN k33 what (nI (g_co (g_mn (g_fh rd (g_nw σ)) t).1)) (nI (g_mn (g_fh rd (g_nw σ)) t).2) n b l b1 b3 h2 (by omega) X hX
    have ef : (g_fo rd (g_hb (g_nw σ) b l)).getD 41 = g_fh rd (g_nw σ) (t + 1) := by
      unfold g_fh
      rw [show 1 + (t + 1) / 4 = b by omega, show 2 + (t + 1) % 4 = l by omega]
    rw [ef] at e
    have hle := fh_le rd (g_nw σ) (t + 1)
    have hmn := mn_le (fh_le rd (g_nw σ)) t
    obtain ⟨Z, hZ, e3⟩ := ih n (l + 1) (t + 1) Y (by omega) (by omega) (by omega) (by omega) hY
    rw [show t + 1 + j = t + (j + 1) by omega] at e3
    refine ⟨Z, hZ, ?_⟩
    rw [e, ← e3]
    by_cases hc : (g_mn (g_fh rd (g_nw σ)) t).2 ≤ g_fh rd (g_nw σ) (t + 1)
    · rw [if_pos (nI_le hc (by omega))]
      have em : g_mn (g_fh rd (g_nw σ)) (t + 1) = g_mn (g_fh rd (g_nw σ)) t := by
        rw [g_mn, if_pos hc]
      rw [em]
    · rw [if_neg (nI_ge (by omega) (by omega))]
      have em : g_mn (g_fh rd (g_nw σ)) (t + 1) = (t + 1, g_fh rd (g_nw σ) (t + 1)) := by
        rw [g_mn, if_neg hc]
      rw [em]
      have : 10 * b + l = g_co (t + 1) := by
        unfold g_co
        omega
      rw [this]
def g_spa (what : Int32) (p : Nat × Nat) : Int32 := if what = 0 then nI (g_co p.1) else nI p.2
theorem sp_c {rd : Int32} (r0 : 0 ≤ rd) (r1 : rd ≤ 5) (σ : Sto) (hN : okB (g_nw σ)) (hX : okB (σ 5, σ 6)) (what : Int32) : ∃ Y, okB Y ∧ fX3_speak_l33 300 rd what 0 42 1 σ = some (g_spa what (g_mn (g_fh rd (g_nw σ)) 11), putB σ 5 Y) := by
  have n1 : ∀ b, b ≤ 3 → ¬ (3 : Int32) < nI b := fun b h => nI_nlt (a := 3) h (by decide)
  obtain ⟨Y0, h0, e0⟩ := sp_step r0 r1 σ hN (fun a0 a1 a2 a3 a4 s => fX3_speak_l33 299 a0 a1 a2 a3 a4 s) what 0 42 299 1 2 (by decide) (by decide) (by decide) (by decide) (σ 5, σ 6) hX
  have ef : (g_fo rd (g_hb (g_nw σ) 1 2)).getD 41 = g_fh rd (g_nw σ) 0 := rfl
  have hle := fh_le rd (g_nw σ) 0
  have a1 : nI (10 * 1 + 2) = nI (g_co (g_mn (g_fh rd (g_nw σ)) 0).1) := by simp [g_mn, g_co]
  have a2 : nI (g_fh rd (g_nw σ) 0) = nI (g_mn (g_fh rd (g_nw σ)) 0).2 := rfl
  rw [ef, if_neg (show ¬ (42 : Int32) ≤ nI (g_fh rd (g_nw σ) 0) from nI_ge (b := 42) (by omega) (by decide)), putB_self, a1, a2, show 2 + 1 = 3 from rfl, show 299 + 1 = 300 from rfl] at e0
  obtain ⟨Y1, h1, e1⟩ := sp_in r0 r1 σ hN (fun a0 a1 a2 a3 a4 s => fX3_speak_l33 299 a0 a1 a2 a3 a4 s) what 1 (by decide) (by decide) 3 299 3 0 Y0 (by decide) (by decide) (by decide) (by decide) h0
  obtain ⟨Y2, h2, e2⟩ := sp_in r0 r1 σ hN (fun a0 a1 a2 a3 a4 s => fX3_speak_l33 298 a0 a1 a2 a3 a4 s) what 2 (by decide) (by decide) 4 300 2 3 Y1 (by decide) (by decide) (by decide) (by decide) h1
  obtain ⟨Y3, h3, e3⟩ := sp_in r0 r1 σ hN (fun a0 a1 a2 a3 a4 s => fX3_speak_l33 297 a0 a1 a2 a3 a4 s) what 3 (by decide) (by decide) 4 300 2 7 Y2 (by decide) (by decide) (by decide) (by decide) h2
  rw [show 0 + 3 = 3 from rfl, show 1 + 1 = 2 from rfl] at e1
  rw [show 3 + 4 = 7 from rfl, show 2 + 1 = 3 from rfl] at e2
  rw [show 7 + 4 = 11 from rfl] at e3
  refine ⟨Y3, h3, ?_⟩
  have z1 : (1 : Int32) = nI 1 := rfl
  have z2 : (2 : Int32) = nI 2 := rfl
  rw [fX3_speak_l33, z1, if_neg (n1 1 (by decide)), z2, e0, e1, fX3_speak_l33, if_neg (n1 2 (by decide)), z2, e2, fX3_speak_l33, if_neg (n1 3 (by decide)), z2, e3, fX3_speak_l33, if_pos (show (3 : Int32) < nI (3 + 1) by decide)]
  unfold g_spa
  split <;> rfl
def g_T (k : Nat) : Nat := 4 * (k / 10 - 1) + (if k % 10 < 2 then 0 else if k % 10 < 6 then k % 10 - 2 else 4)
theorem T_tab1 : ∀ k, k < 36 → 12 ≤ k → 2 ≤ k % 10 ∧ k % 10 ≤ 5 → g_T (k + 1) = g_T k + 1 ∧ 1 + g_T k / 4 = k / 10 ∧ 2 + g_T k % 4 = k % 10 ∧ g_co (g_T k) = k := by decide +kernel
theorem T_tab2 : ∀ k, k < 36 → 12 ≤ k → ¬ (2 ≤ k % 10 ∧ k % 10 ≤ 5) → g_T (k + 1) = g_T k := by decide +kernel
theorem hb_hb (A : Nat → Int32) (x y x' y' : Int32) : upd (upd (upd (upd A 6 x) 7 y) 6 x') 7 y' = upd (upd A 6 x') 7 y' := by
  funext j
  unfold upd
  split
  · rfl
  · split
    · rfl
    · rfl
theorem hb_id (A : Nat → Int32) (x y : Int32) : upd (upd (upd (upd A 6 x) 7 y) 6 (A 6)) 7 (A 7) = A := by
  rw [hb_hb, updId, updId]
theorem spm_act {rd : Int32} (r0 : 0 ≤ rd) (r1 : rd ≤ 5) (τ : Sto) {B : BS} (hB : okB B) (what b0 l0 v5 v6 x y : Int32) (n k : Nat) (k0 : 12 ≤ k) (k1 : k < 36) (ha : 2 ≤ k % 10 ∧ k % 10 ≤ 5) : ∃ υ, g_Sk τ υ ∧ fX4_speak_l51 (n + 1) rd what b0 l0 v5 v6 (nI k) (putM τ (upd (upd B.1 6 x) 7 y, B.2)) = if nI (g_fh rd B (g_T k)) < v6 then fX4_speak_l51 n rd what b0 l0 (nI k) (nI (g_fh rd B (g_T k))) (nI (k + 1)) (putM υ (g_hb B (k / 10) (k % 10))) else fX4_speak_l51 n rd what b0 l0 v5 v6 (nI (k + 1)) (putM υ (g_hb B (k / 10) (k % 10))) := by
  have hk := hb_ok hB (b := k / 10) (l := k % 10) (by omega) (by omega) ha.1 ha.2
  obtain ⟨υ, e, hS⟩ := follow_m r0 r1 τ hk
  refine ⟨υ, hS, ?_⟩
  have i1 : inb 1 4 = true := by decide
  have i2 : inb 2 4 = true := by decide
  have c1 : (1 : Int32).toNatClampNeg = 1 := by decide
  have c2 : (2 : Int32).toNatClampNeg = 2 := by decide
  have er : irm (nI k) 10 = nI (k % 10) := irm_nI (by omega) (by decide) (by decide)
  have ed : nI k / 10 = nI (k / 10) := pk_div (by omega) (by decide) (by decide)
  rw [fX4_speak_l51, if_neg (show ¬ (36 : Int32) ≤ nI (k) from nI_ge (b := 36) (by omega) (by decide)), er, isIn_in (a := 2) (b := 5) _ (nI_le (a := 2) ha.1 (by omega)) (nI_le (b := 5) ha.2 (by decide)), Option.bind_some, if_neg (show ¬ (1 : Int32) = 0 by decide), if_pos i1, if_pos i2]
  simp only [c1, c2, ed, putM_uh1, putM_uh2, hb_hb]
  unfold fX4_speak_b96 fX4_speak_b126
  have e' : fX4_followBy rd (putM τ (upd (upd B.1 6 (nI (k / 10))) 7 (nI (k % 10)), B.2)) = some (g_opt (-9) (g_fo rd (g_hb B (k / 10) (k % 10))), putM υ (g_hb B (k / 10) (k % 10))) := e
  have eo := opt_else (o := g_fo rd (g_hb B (k / 10) (k % 10))) (fun r hr => fo_le hr) 41 (putM υ (g_hb B (k / 10) (k % 10)))
  have z41 : nI 41 = (41 : Int32) := rfl
  rw [z41] at eo
  rw [e', Option.bind_some, eo, Option.bind_some]
  have hT := T_tab1 k k1 k0 ha
  have ef : (g_fo rd (g_hb B (k / 10) (k % 10))).getD 41 = g_fh rd B (g_T k) := by
    unfold g_fh
    rw [hT.2.1, hT.2.2.1]
  simp only [ef, nI_1]
theorem spm_loop {rd : Int32} (r0 : 0 ≤ rd) (r1 : rd ≤ 5) {B : BS} (hB : okB B) (what : Int32) : ∀ m n k t τ x y, m < n → k + m = 36 → 12 ≤ k → g_T k = t + 1 → ∃ υ, g_Sk τ υ ∧ fX4_speak_l51 n rd what (B.1 6) (B.1 7) (nI (g_co (g_mn (g_fh rd B) t).1)) (nI (g_mn (g_fh rd B) t).2) (nI k) (putM τ (upd (upd B.1 6 x) 7 y, B.2)) = some (g_spa what (g_mn (g_fh rd B) 11), putM υ B) := by
  intro m
  induction m with
  | zero =>
    intro n k t τ x y hn hk k0 ht
    obtain ⟨n, rfl⟩ : ∃ q, n = q + 1 := ⟨n - 1, by omega⟩
    have : k = 36 := by omega
    subst this
    have : t = 11 := by
      have : g_T 36 = 12 := by decide
      omega
    subst this
    refine ⟨τ, Sk_refl τ, ?_⟩
    have i1 : inb 1 4 = true := by decide
    have i2 : inb 2 4 = true := by decide
    have c1 : (1 : Int32).toNatClampNeg = 1 := by decide
    have c2 : (2 : Int32).toNatClampNeg = 2 := by decide
    rw [fX4_speak_l51, if_pos (show (36 : Int32) ≤ nI 36 by decide), if_pos i1, if_pos i2]
    unfold fX4_speak_b147 g_spa
    simp only [c1, c2, putM_uh1, putM_uh2, hb_id]
    split <;> rfl
  | succ m ih =>
    intro n k t τ x y hn hk k0 ht
    obtain ⟨n, rfl⟩ : ∃ q, n = q + 1 := ⟨n - 1, by omega⟩
    by_cases ha : 2 ≤ k % 10 ∧ k % 10 ≤ 5
    · obtain ⟨υ, hS, e⟩ := spm_act r0 r1 τ hB what (B.1 6) (B.1 7) (nI (g_co (g_mn (g_fh rd B) t).1)) (nI (g_mn (g_fh rd B) t).2) x y n k k0 (by omega) ha
      have hT := T_tab1 k (by omega) k0 ha
      obtain ⟨φ, hS2, e2⟩ := ih n (k + 1) (t + 1) υ (nI (k / 10)) (nI (k % 10)) (by omega) (by omega) (by omega) (by omega)
      refine ⟨φ, Sk_trans hS hS2, ?_⟩
      rw [e, ← e2, ht]
      have hle := fh_le rd B (t + 1)
      have hmn := mn_le (fh_le rd B) t
      by_cases hc : (g_mn (g_fh rd B) t).2 ≤ g_fh rd B (t + 1)
      · rw [if_neg (nI_nlt hc (by omega))]
        have em : g_mn (g_fh rd B) (t + 1) = g_mn (g_fh rd B) t := by
          rw [g_mn, if_pos hc]
        rw [em]
        rfl
      · rw [if_pos (nI_lt (by omega) (by omega))]
        have em : g_mn (g_fh rd B) (t + 1) = (t + 1, g_fh rd B (t + 1)) := by
          rw [g_mn, if_neg hc]
        rw [em]
        have : k = g_co (t + 1) := by
          rw [← ht]
          exact hT.2.2.2.symm
        rw [← this]
        rfl
    · have hT := T_tab2 k (by omega) k0 ha
      obtain ⟨φ, hS2, e2⟩ := ih n (k + 1) t τ x y (by omega) (by omega) (by omega) (by omega)
      refine ⟨φ, hS2, ?_⟩
      have er : irm (nI k) 10 = nI (k % 10) := irm_nI (by omega) (by decide) (by decide)
      have ho : ¬ ((2 : Int32) ≤ nI (k % 10) ∧ nI (k % 10) ≤ 5) := by
        intro h
        exact ha ⟨(nI_leI (a := 2) (by decide) (by omega)).mp h.1, (nI_leI (b := 5) (by omega) (by decide)).mp h.2⟩
      rw [← e2, fX4_speak_l51, if_neg (show ¬ (36 : Int32) ≤ nI (k) from nI_ge (b := 36) (by omega) (by decide)), er, isIn_out _ ho, Option.bind_some, if_pos rfl]
      unfold fX4_speak_b126
      rw [nI_1]
theorem sp_m {rd : Int32} (r0 : 0 ≤ rd) (r1 : rd ≤ 5) (τ : Sto) {B : BS} (hB : okB B) (what : Int32) : ∃ υ, g_Sk τ υ ∧ fX4_speak_l51 300 rd what (B.1 6) (B.1 7) 0 99 12 (putM τ B) = some (g_spa what (g_mn (g_fh rd B) 11), putM υ B) := by
  obtain ⟨υ, hS, e⟩ := spm_act r0 r1 τ hB what (B.1 6) (B.1 7) 0 99 (B.1 6) (B.1 7) 299 12 (by decide) (by decide) (by decide)
  have hle := fh_le rd B 0
  rw [updId, updId, show g_T 12 = 0 by decide, if_pos (show nI (g_fh rd B 0) < 99 from nI_lt (b := 99) (by omega) (by decide))] at e
  obtain ⟨φ, hS2, e2⟩ := spm_loop r0 r1 hB what 23 299 13 0 υ (nI (12 / 10)) (nI (12 % 10)) (by decide) (by decide) (by decide) (by decide)
  have a1 : nI 12 = nI (g_co (g_mn (g_fh rd B) 0).1) := by simp [g_mn, g_co]
  have a2 : nI (g_fh rd B 0) = nI (g_mn (g_fh rd B) 0).2 := rfl
  have a4 : g_hb B (12 / 10) (12 % 10) = (upd (upd B.1 6 (nI (12 / 10))) 7 (nI (12 % 10)), B.2) := rfl
  rw [show 299 + 1 = 300 from rfl, show 12 + 1 = 13 from rfl, a4, a2] at e
  rw [← a1] at e2
  refine ⟨φ, Sk_trans hS hS2, ?_⟩
  have z12 : (12 : Int32) = nI 12 := rfl
  rw [z12, e, e2]
theorem ok_speak (rd what : Int32) : g_Ok (fX3_speak rd what) (fX4_speak rd what) := by
  by_cases h : 0 ≤ rd ∧ rd < 6
  · have h5 : rd ≤ 5 := n_lt 6 5 (by decide) (by decide) h (by decide)
    by_cases k : 0 ≤ what ∧ what < 2
    · have k5 : what ≤ 1 := n_lt 2 1 (by decide) (by decide) k (by decide)
      refine ok_query (fun σ => g_spa what (g_mn (g_fh rd (g_nw σ)) 11)) (c_query (v := fun B => g_spa what (g_mn (g_fh rd B) 11)) ?_) (m_query (v := fun B => g_spa what (g_mn (g_fh rd B) 11)) ?_) ?_
      · intro σ hn hX
        obtain ⟨Y, h1, h2⟩ := sp_c h.1 h5 σ hn hX what
        refine ⟨Y, ?_, h1⟩
        unfold fX3_speak
        rw [isNot_in _ h.1 h.2, Option.bind_some, if_pos rfl, isNot_in _ k.1 k.2, Option.bind_some, if_pos rfl]
        exact h2
      · intro τ B hB
        obtain ⟨υ, e4, e1⟩ := sp_m h.1 h5 τ hB what
        refine ⟨υ, ?_, Sk_Sm e4⟩
        have i1 : inb 1 4 = true := by decide
        have i2 : inb 2 4 = true := by decide
        have c1 : (1 : Int32).toNatClampNeg = 1 := by decide
        have c2 : (2 : Int32).toNatClampNeg = 2 := by decide
        unfold fX4_speak
        rw [isIn_in _ h.1 h5, Option.bind_some, if_neg (show ¬ (1 : Int32) = 0 by decide), isIn_in _ k.1 k5, Option.bind_some, if_neg (show ¬ (1 : Int32) = 0 by decide), if_pos i1, if_pos i2, c1, c2]
        dsimp only
        rw [putM_h1, putM_h2]
        exact e1
      · intro σ τ hI hS
        simp only [Sc_nw hS]
    · intro σ hI
      have k2 : ¬ (0 ≤ what ∧ what ≤ 1) := by grind
      exact ⟨-2, g_rf 2 σ, g_rm 2 (g_rf 2 σ), by simp only [fX3_speak, fX3_speak_b17, isNot_in _ h.1 h.2, isNot_out _ k, Option.bind_some, eq_self, if_true, if_false, i10, i01, m10, m20, m40, m60, m90, refuse_2], by simp only [fX4_speak, fX4_speak_b18, isIn_in _ h.1 h5, isIn_out _ k2, Option.bind_some, eq_self, if_true, if_false, i10, i01, m10, m20, m40, m60, m90, no_2], In_rf 2 hI⟩
  · intro σ hI
    have h2 : ¬ (0 ≤ rd ∧ rd ≤ 5) := by grind
    exact ⟨-2, g_rf 2 σ, g_rm 2 (g_rf 2 σ), by simp only [fX3_speak, fX3_speak_b17, isNot_out _ h, Option.bind_some, eq_self, if_true, if_false, i10, i01, m10, m20, m40, m60, m90, refuse_2], by simp only [fX4_speak, fX4_speak_b18, isIn_out _ h2, Option.bind_some, eq_self, if_true, if_false, i10, i01, m10, m20, m40, m60, m90, no_2], In_rf 2 hI⟩

