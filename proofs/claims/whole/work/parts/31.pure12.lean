/-! the pure part, 12: STRIPS -/
theorem nI_sub {a b : Nat} (h : b ≤ a) : nI a - nI b = nI (a - b) := by
  have e : nI a = nI (a - b) + nI b := by rw [nI_add, Nat.sub_add_cancel h]
  rw [e, Int32.add_sub_cancel]
def g_L (s : Nat) : Nat := if s < 4 then 6 else 4
def g_c0 (s : Nat) : Nat := if s < 4 then 6 * s else s - 4
def g_ap (s : Nat) : Nat := if s < 4 then 1 else 6
def g_cs (s v : Nat) (_ : BS) : Int32 := nI (g_c0 s + g_ap s * v)
theorem cs_rng (s : Nat) (hs : s < 10) : ∀ v B, v < g_L s → okB B → B.1 2 ≠ 24 → 0 ≤ g_cs s v B ∧ g_cs s v B ≤ 23 := by
  intro v B hv _ _
  have h : g_c0 s + g_ap s * v ≤ 23 := by
    unfold g_L at hv
    unfold g_c0 g_ap
    split
    · rw [if_pos (by assumption)] at hv
      omega
    · rw [if_neg (by assumption)] at hv
      omega
  unfold g_cs
  exact ⟨nI_pos' (by omega), nI_le (b := 23) h (by decide)⟩
theorem L_le (s : Nat) : g_L s ≤ 6 := by
  unfold g_L
  split <;> omega
theorem st_cl (σ : Sto) (s : Nat) (hs : s < 10) : ∀ m n v B, m < n → v + m = g_L s → okB B → fX3_strokesOfStrip_l64 n (nI (g_c0 s)) (nI (g_L s)) (nI (g_ap s)) (nI v) (putB σ 5 B) = some (g_opt (-9) (g_run (g_cs s) m v B), putB σ 5 (g_end (g_cs s) m v B)) := by
  have hL := L_le s
  intro m
  induction m with
  | zero =>
    intro n v B hn hv hB
    obtain ⟨n, rfl⟩ : ∃ q, n = q + 1 := ⟨n - 1, by omega⟩
    have : v = g_L s := by omega
    subst this
    rw [fX3_strokesOfStrip_l64, if_pos (nI_le (Nat.le_refl _) (by omega)), putB_k]
    unfold g_run g_end
    split <;> rfl
  | succ m ih =>
    intro n v B hn hv hB
    obtain ⟨n, rfl⟩ : ∃ q, n = q + 1 := ⟨n - 1, by omega⟩
    rw [fX3_strokesOfStrip_l64, if_neg (nI_ge (a := v) (b := g_L s) (by omega) (by omega)), putB_k]
    unfold g_run g_end
    by_cases hg : B.1 2 = 24
    · simp only [hg, if_true, opt_some]
    · have hr := cs_rng s hs v B (by omega) hB hg
      have es := strokeOn_eq σ 5 B hr.1 hr.2 hB.2.2.1.1 hB.2.2.1.2
      have ec : nI (g_c0 s) + nI (g_ap s) * nI v = g_cs s v B := by
        rw [pk_mul, nI_add]
        rfl
      simp only [hg, if_false, ec]
      rw [es]
      simp only [Option.bind_some, nI_1]
      exact ih n (v + 1) _ (by omega) (by omega) (bStroke_ok hB hr.1 hr.2)
theorem st_c (σ : Sto) (s : Nat) (hs : s < 10) (hn : okB (g_nw σ)) {X : BS} (hX : okB X) : ∃ Y, okB Y ∧ fX3_strokesOfStrip (nI s) (putB σ 5 X) = some (g_opt (-9) (g_run (g_cs s) (g_L s) 0 (g_nw σ)), putB σ 5 Y) := by
  refine ⟨_, end_ok (g_cs s) (g_L s) (cs_rng s hs) (g_L s) 0 (g_nw σ) (by omega) hn, ?_⟩
  have hL := L_le s
  have e := st_cl σ s hs (g_L s) 300 0 (g_nw σ) (by omega) (by omega) hn
  rw [nI_0] at e
  unfold fX3_strokesOfStrip fX3_strokesOfStrip_b10 fX3_strokesOfStrip_b25 fX3_strokesOfStrip_b36 fX3_strokesOfStrip_b48
  by_cases h4 : s < 4
  · have h4' : ¬ (4 : Int32) ≤ nI s := nI_ge (b := 4) h4 (by decide)
    have e1 : (6 : Int32) * nI s = nI (g_c0 s) := by
      have : (6 : Int32) = nI 6 := rfl
      unfold g_c0
      rw [if_pos h4, this, pk_mul]
    have e2 : (6 : Int32) = nI (g_L s) := by
      unfold g_L
      rw [if_pos h4]
      rfl
    have e3 : (1 : Int32) = nI (g_ap s) := by
      unfold g_ap
      rw [if_pos h4]
      rfl
    rw [if_neg h4', if_neg (show ¬ (1 : Int32) = 0 by decide), if_neg (show ¬ (1 : Int32) = 0 by decide), if_neg (show ¬ (1 : Int32) = 0 by decide), take51 hn hX, Option.bind_some, e1, e3, e2]
    exact e
  · have h4' : (4 : Int32) ≤ nI s := nI_le (a := 4) (by omega) (by omega)
    have e1 : nI s - 4 = nI (g_c0 s) := by
      have : (4 : Int32) = nI 4 := rfl
      unfold g_c0
      rw [if_neg h4, this, nI_sub (by omega)]
    have e2 : (4 : Int32) = nI (g_L s) := by
      unfold g_L
      rw [if_neg h4]
      rfl
    have e3 : (6 : Int32) = nI (g_ap s) := by
      unfold g_ap
      rw [if_neg h4]
      rfl
    rw [if_pos h4', if_pos rfl, if_pos rfl, if_pos rfl, take51 hn hX, Option.bind_some, e1, e3, e2]
    exact e
theorem st_ml (τ : Sto) (s : Nat) (hs : s < 10) : ∀ m n v B, m < n → v + m = g_L s → okB B → fX4_stripBy_l20 n (nI s) (nI (g_L s)) (nI v) (putM τ B) = (fX4_passesAll 1 0 (putM τ (g_end (g_cs s) m v B))).bind fun q => some (g_opt (-9) (g_run (g_cs s) m v B), q.2) := by
  have hL := L_le s
  intro m
  induction m with
  | zero =>
    intro n v B hn hv hB
    obtain ⟨n, rfl⟩ : ∃ q, n = q + 1 := ⟨n - 1, by omega⟩
    have : v = g_L s := by omega
    subst this
    rw [fX4_stripBy_l20, if_pos (nI_le (Nat.le_refl _) (by omega))]
    unfold g_run g_end fX4_stripBy_b66 fX4_stripBy_b81
    simp only [putM_4]
    by_cases hg : B.1 2 = 24
    · simp only [hg, if_true, opt_some]
    · simp only [hg, if_false, opt_none]
  | succ m ih =>
    intro n v B hn hv hB
    obtain ⟨n, rfl⟩ : ∃ q, n = q + 1 := ⟨n - 1, by omega⟩
    rw [fX4_stripBy_l20, if_neg (nI_ge (a := v) (b := g_L s) (by omega) (by omega))]
    unfold g_run g_end fX4_stripBy_b66 fX4_stripBy_b81 fX4_stripBy_b57
    simp only [putM_4]
    by_cases hg : B.1 2 = 24
    · simp only [hg, if_true, opt_some]
    · have hr := cs_rng s hs v B (by omega) hB hg
      have es := strokes_eq τ hB hr.1 hr.2
      have hi := ih n (v + 1) _ (by omega) (by omega) (bStroke_ok hB hr.1 hr.2)
      simp only [hg, if_false]
      by_cases h4 : s < 4
      · have h4' : ¬ (4 : Int32) ≤ nI s := nI_ge (b := 4) h4 (by decide)
        have ec : (6 : Int32) * nI s + nI v = g_cs s v B := by
          have : (6 : Int32) = nI 6 := rfl
          unfold g_cs g_c0 g_ap
          rw [if_pos h4, if_pos h4, this, pk_mul, nI_add, Nat.one_mul]
        rw [if_neg h4', ec, es]
        simp only [Option.bind_some, nI_1]
        exact hi
      · have h4' : (4 : Int32) ≤ nI s := nI_le (a := 4) (by omega) (by omega)
        have ec : ((6 : Int32) * nI v + nI s) - 4 = g_cs s v B := by
          have : (6 : Int32) = nI 6 := rfl
          have t4 : (4 : Int32) = nI 4 := rfl
          unfold g_cs g_c0 g_ap
          rw [if_neg h4, if_neg h4, this, pk_mul, nI_add, t4, nI_sub (by omega)]
          congr 1
          omega
        rw [if_pos h4', ec, es]
        simp only [Option.bind_some, nI_1]
        exact hi
theorem st_m (τ : Sto) (s : Nat) (hs : s < 10) {B : BS} (hB : okB B) : ∃ υ, fX4_stripBy (nI s) (putM τ B) = some (g_opt (-9) (g_run (g_cs s) (g_L s) 0 B), putM υ B) ∧ g_Sk τ υ := by
  have hL := L_le s
  obtain ⟨υ, e, h⟩ := mind_k (τ := τ) (τ' := g_sv 1 B τ) hB (end_ok (g_cs s) (g_L s) (cs_rng s hs) (g_L s) 0 B (by omega) hB) (fun _ => rfl)
  refine ⟨υ, ?_, h⟩
  have k := st_ml (g_sv 1 B τ) s hs (g_L s) 300 0 B (by omega) (by omega) hB
  rw [nI_0, e, Option.bind_some] at k
  unfold fX4_stripBy fX4_stripBy_b17
  rw [mind_save τ B, Option.bind_some]
  by_cases h4 : s < 4
  · have h4' : ¬ (4 : Int32) ≤ nI s := nI_ge (b := 4) h4 (by decide)
    have e2 : (6 : Int32) = nI (g_L s) := by
      unfold g_L
      rw [if_pos h4]
      rfl
    rw [if_neg h4', e2]
    exact k
  · have h4' : (4 : Int32) ≤ nI s := nI_le (a := 4) (by omega) (by omega)
    have e2 : (4 : Int32) = nI (g_L s) := by
      unfold g_L
      rw [if_neg h4]
      rfl
    rw [if_pos h4']
    show fX4_stripBy_l20 300 (nI s) 4 0 (putM (g_sv 1 B τ) B) = _
    rw [e2]
    exact k
theorem ok_strip (c : Int32) : g_Ok (fX3_strip c) (fX4_strip c) := by
  by_cases h : 0 ≤ c ∧ c < 10
  · have h5 : c ≤ 9 := n_lt 10 9 (by decide) (by decide) h (by decide)
    obtain ⟨s, hs, rfl⟩ := i32_nat 9 9 h.1 h5 (by decide)
    refine ok_query (fun σ => g_opt (-9) (g_run (g_cs s) (g_L s) 0 (g_nw σ))) (c_query (v := fun B => g_opt (-9) (g_run (g_cs s) (g_L s) 0 B)) ?_) (m_query (v := fun B => g_opt (-9) (g_run (g_cs s) (g_L s) 0 B)) ?_) ?_
    · intro σ hn hX
      obtain ⟨Y, h1, h2⟩ := st_c σ s (by omega) hn hX
      refine ⟨Y, ?_, h1⟩
      rw [putB_self] at h2
      unfold fX3_strip
      rw [isNot_in _ h.1 h.2, Option.bind_some, if_pos rfl, h2]
      rfl
    · intro τ B hB
      obtain ⟨υ, e, hk⟩ := st_m τ s (by omega) hB
      refine ⟨υ, ?_, Sk_Sm hk⟩
      unfold fX4_strip
      rw [isIn_in _ h.1 h5, Option.bind_some, if_neg (show ¬ (1 : Int32) = 0 by decide), e]
      rfl
    · intro σ τ hI hS
      simp only [Sc_nw hS]
  · intro σ hI
    have h2 : ¬ (0 ≤ c ∧ c ≤ 9) := by grind
    exact ⟨-1, g_rf 1 σ, g_rm 1 (g_rf 1 σ), by simp only [fX3_strip, isNot_out _ h, Option.bind_some, eq_self, if_true, if_false, i10, i01, m10, m20, m40, m60, m90, refuse_1], by simp only [fX4_strip, isIn_out _ h2, Option.bind_some, eq_self, if_true, if_false, i10, i01, m10, m20, m40, m60, m90, no_1], In_rf 1 hI⟩
-- the best of the strips
def g_fs (B : BS) (s : Nat) : Option Nat := g_run (g_cs s) (g_L s) 0 B
theorem fs_le {B : BS} {s r : Nat} (h : g_fs B s = some r) : r ≤ 6 := by
  have := run_le _ _ _ _ _ h
  have := L_le s
  omega
def g_bs (f : Nat → Option Nat) : Nat → Option (Nat × Nat)
  | 0 => none
  | s + 1 => match f s with
    | none => g_bs f s
    | some r => match g_bs f s with
      | none => some (s, r)
      | some p => if p.2 ≤ r then some p else some (s, r)
theorem bs_le {f : Nat → Option Nat} (h : ∀ s r, f s = some r → r ≤ 6) : ∀ s p, g_bs f s = some p → p.1 < s ∧ p.2 ≤ 6 := by
  intro s
  induction s with
  | zero =>
    intro p hp
    cases hp
  | succ s ih =>
    intro p hp
    unfold g_bs at hp
    split at hp
    · have := ih p hp
      omega
    · rename_i r hr
      split at hp
      · cases hp
        exact ⟨Nat.lt_succ_self _, h _ _ hr⟩
      · rename_i q hq
        split at hp
        · cases hp
          have := ih _ hq
          omega
        · cases hp
          exact ⟨Nat.lt_succ_self _, h _ _ hr⟩
def g_b1 (o : Option (Nat × Nat)) : Int32 := match o with
  | none => -9
  | some p => nI p.1
def g_b2 (d : Int32) (o : Option (Nat × Nat)) : Int32 := match o with
  | none => d
  | some p => nI p.2
theorem bst_c (σ : Sto) (hN : okB (g_nw σ)) : ∀ m n s X, m < n → s + m = 10 → okB X → ∃ Y, okB Y ∧ fX3_bestStrip_l8 n (g_b1 (g_bs (g_fs (g_nw σ)) s)) (g_b2 24 (g_bs (g_fs (g_nw σ)) s)) (nI s) (putB σ 5 X) = some (g_b1 (g_bs (g_fs (g_nw σ)) 10), putB σ 5 Y) := by
  intro m
  induction m with
  | zero =>
    intro n s X hn hs hX
    obtain ⟨n, rfl⟩ : ∃ q, n = q + 1 := ⟨n - 1, by omega⟩
    have : s = 10 := by omega
    subst this
    exact ⟨X, hX, by rw [fX3_bestStrip_l8, if_pos (show (10 : Int32) ≤ nI 10 by decide)]⟩
  | succ m ih =>
    intro n s X hn hs hX
    obtain ⟨n, rfl⟩ : ∃ q, n = q + 1 := ⟨n - 1, by omega⟩
    obtain ⟨Y, hY, e⟩ := st_c σ s (by omega) hN hX
    have hI := ih n (s + 1) Y (by omega) (by omega) hY
    rw [fX3_bestStrip_l8, if_neg (show ¬ (10 : Int32) ≤ nI (s) from nI_ge (b := 10) (by omega) (by decide)), e, Option.bind_some]
    unfold fX3_bestStrip_b39
    have ef : g_run (g_cs s) (g_L s) 0 (g_nw σ) = g_fs (g_nw σ) s := rfl
    rw [ef]
    simp only [nI_1]
    cases hf : g_fs (g_nw σ) s with
    | none =>
      have eb : g_bs (g_fs (g_nw σ)) (s + 1) = g_bs (g_fs (g_nw σ)) s := by rw [g_bs, hf]
      rw [eb] at hI
      rw [if_pos (opt_none (-9))]
      exact hI
    | some r =>
      have hr := fs_le hf
      have hne : ¬ nI r = -9 := by
        have := nI_pos' (n := r) (by omega)
        grind
      rw [opt_some, if_neg hne]
      cases hb : g_bs (g_fs (g_nw σ)) s with
      | none =>
        have eb : g_bs (g_fs (g_nw σ)) (s + 1) = some (s, r) := by rw [g_bs, hf, hb]
        rw [eb] at hI
        rw [if_neg (show ¬ g_b2 24 none ≤ nI r from nI_ge (a := r) (b := 24) (by omega) (by decide))]
        exact hI
      | some p =>
        have hp := bs_le (fun s r h => fs_le h) s p hb
        by_cases hc : p.2 ≤ r
        · have eb : g_bs (g_fs (g_nw σ)) (s + 1) = some p := by rw [g_bs, hf, hb]; exact if_pos hc
          rw [eb] at hI
          rw [if_pos (show g_b2 24 (some p) ≤ nI r from nI_le hc (by omega))]
          exact hI
        · have eb : g_bs (g_fs (g_nw σ)) (s + 1) = some (s, r) := by rw [g_bs, hf, hb]; exact if_neg hc
          rw [eb] at hI
          rw [if_neg (show ¬ g_b2 24 (some p) ≤ nI r from nI_ge (by omega) (by omega))]
          exact hI
theorem bst_m {B : BS} (hB : okB B) : ∀ m n s τ, m < n → s + m = 10 → ∃ υ, g_Sk τ υ ∧ fX4_bestStrip_l8 n (g_b1 (g_bs (g_fs B) s)) (g_b2 99 (g_bs (g_fs B) s)) (nI s) (putM τ B) = some (g_b1 (g_bs (g_fs B) 10), putM υ B) := by
  intro m
  induction m with
  | zero =>
    intro n s τ hn hs
    obtain ⟨n, rfl⟩ : ∃ q, n = q + 1 := ⟨n - 1, by omega⟩
    have : s = 10 := by omega
    subst this
    exact ⟨τ, Sk_refl τ, by rw [fX4_bestStrip_l8, if_pos (show (10 : Int32) ≤ nI 10 by decide)]⟩
  | succ m ih =>
    intro n s τ hn hs
    obtain ⟨n, rfl⟩ : ∃ q, n = q + 1 := ⟨n - 1, by omega⟩
    obtain ⟨υ, e, hk⟩ := st_m τ s (by omega) hB
    obtain ⟨φ, hk2, hI⟩ := ih n (s + 1) υ (by omega) (by omega)
    refine ⟨φ, Sk_trans hk hk2, ?_⟩
    rw [fX4_bestStrip_l8, if_neg (show ¬ (10 : Int32) ≤ nI (s) from nI_ge (b := 10) (by omega) (by decide)), e, Option.bind_some]
    unfold fX4_bestStrip_b40
    have ef : g_run (g_cs s) (g_L s) 0 B = g_fs B s := rfl
    have eo := opt_else (o := g_fs B s) (fun r hr => by have := fs_le hr; omega) 99 (putM υ B)
    have z99 : nI 99 = (99 : Int32) := rfl
    rw [z99] at eo
    rw [ef, eo, Option.bind_some]
    simp only [nI_1]
    cases hf : g_fs B s with
    | none =>
      have eb : g_bs (g_fs B) (s + 1) = g_bs (g_fs B) s := by rw [g_bs, hf]
      rw [eb] at hI
      have hlt : ¬ nI ((none : Option Nat).getD 99) < g_b2 99 (g_bs (g_fs B) s) := by
        cases hb : g_bs (g_fs B) s with
        | none => decide
        | some p =>
          have hp := bs_le (fun s r h => fs_le h) s p hb
          exact nI_nlt (a := 99) (b := p.2) (by omega) (by decide)
      rw [if_neg hlt]
      exact hI
    | some r =>
      have hr := fs_le hf
      have eg : (some r).getD 99 = r := rfl
      rw [eg]
      cases hb : g_bs (g_fs B) s with
      | none =>
        have eb : g_bs (g_fs B) (s + 1) = some (s, r) := by rw [g_bs, hf, hb]
        rw [eb] at hI
        rw [if_pos (show nI r < g_b2 99 none from nI_lt (a := r) (b := 99) (by omega) (by decide))]
        exact hI
      | some p =>
        have hp := bs_le (fun s r h => fs_le h) s p hb
        by_cases hc : p.2 ≤ r
        · have eb : g_bs (g_fs B) (s + 1) = some p := by rw [g_bs, hf, hb]; exact if_pos hc
          rw [eb] at hI
          rw [if_neg (show ¬ nI r < g_b2 99 (some p) from nI_nlt hc (by omega))]
          exact hI
        · have eb : g_bs (g_fs B) (s + 1) = some (s, r) := by rw [g_bs, hf, hb]; exact if_neg hc
          rw [eb] at hI
          rw [if_pos (show nI r < g_b2 99 (some p) from nI_lt (by omega) (by omega))]
          exact hI
theorem ok_bestStrip : g_Ok fX3_bestStrip fX4_bestStrip := by
  refine ok_query (fun σ => g_b1 (g_bs (g_fs (g_nw σ)) 10)) (c_query (v := fun B => g_b1 (g_bs (g_fs B) 10)) ?_) (m_query (v := fun B => g_b1 (g_bs (g_fs B) 10)) ?_) ?_
  · intro σ hn hX
    obtain ⟨Y, h1, h2⟩ := bst_c σ hn 10 300 0 (σ 5, σ 6) (by decide) (by decide) hX
    refine ⟨Y, ?_, h1⟩
    rw [putB_self, nI_0] at h2
    exact h2
  · intro τ B hB
    obtain ⟨υ, hk, e⟩ := bst_m hB 10 300 0 τ (by decide) (by decide)
    refine ⟨υ, ?_, Sk_Sm hk⟩
    rw [nI_0] at e
    exact e
  · intro σ τ hI hS
    simp only [Sc_nw hS]

