/-! the pure part, 9: a reader read, strokes one behind the other, FOLLOW, BEHIND -/
theorem irm_nI {a d : Nat} (ha : a < 2 ^ 31) (h0 : 0 < d) (hd : d < 2 ^ 31) : irm (nI a) (nI d) = nI (a % d) := pk_rem ha h0 hd
theorem rem24 {n : Int32} (h : 0 ≤ n) : 0 ≤ irm n 24 ∧ irm n 24 ≤ 23 := by
  obtain ⟨j, hj, rfl⟩ := nI_of (x := n) (by grind)
  have e : irm (nI j) 24 = nI (j % 24) := irm_nI hj (by decide) (by decide)
  rw [e]
  exact ⟨nI_pos' (by omega), nI_le (b := 23) (by omega) (by decide)⟩
theorem word_rng' {B : BS} (hB : okB B) (hg : B.1 2 ≠ 24) : 0 ≤ pWord (B.1 3) (B.1 2) (B.1 5) (B.1 7) ∧ pWord (B.1 3) (B.1 2) (B.1 5) (B.1 7) ≤ 8 := by
  obtain ⟨-, -, p, h, l, -, t, -, -⟩ := hB
  exact word_rng h.1 h.2 p.1 (by have := p.2; grind) l.1 l.2 t.1 t.2
theorem read_all {rd w hand bit lot : Int32} (r0 : 0 ≤ rd) (r1 : rd ≤ 4) (w0 : 0 ≤ w) (w1 : w ≤ 8) (h0 : 0 ≤ hand) (h1 : hand ≤ 23) (b0 : 1 ≤ bit) (b1 : bit ≤ 3) (l0 : 2 ≤ lot) (l1 : lot ≤ 5) : pRd rd w hand bit lot = qRd rd w hand bit lot ∧ 0 ≤ pRd rd w hand bit lot ∧ pRd rd w hand bit lot ≤ 23 := by
  obtain ⟨r, hr, rfl⟩ := i32_nat 4 4 r0 r1 (by decide)
  obtain ⟨x, hx, rfl⟩ := i32_nat 8 8 w0 w1 (by decide)
  obtain ⟨h, hh, rfl⟩ := i32_nat 23 23 h0 h1 (by decide)
  obtain ⟨b, hb, rfl⟩ := i32_natL 1 3 1 3 b0 b1 (by decide) (by decide) (by decide) (by decide)
  obtain ⟨l, hl, rfl⟩ := i32_natL 2 5 2 5 l0 l1 (by decide) (by decide) (by decide) (by decide)
  exact read_tab (by omega) (by omega) (by omega) (by omega) (by omega)
theorem rd4 {rd : Int32} (r0 : 0 ≤ rd) (r1 : rd ≤ 5) (h : ¬ rd = 5) : rd ≤ 4 := by grind
theorem pRead_rng {rd w n hand bit lot : Int32} (r0 : 0 ≤ rd) (r1 : rd ≤ 5) (w0 : 0 ≤ w) (w1 : w ≤ 8) (n0 : 0 ≤ n) (h0 : 0 ≤ hand) (h1 : hand ≤ 23) (b0 : 1 ≤ bit) (b1 : bit ≤ 3) (l0 : 2 ≤ lot) (l1 : lot ≤ 5) : 0 ≤ pRead rd w n hand bit lot ∧ pRead rd w n hand bit lot ≤ 23 := by
  unfold pRead
  split
  · exact rem24 n0
  · rename_i h
    exact (read_all r0 (rd4 r0 r1 h) w0 w1 h0 h1 b0 b1 l0 l1).2
theorem pRead_q {rd w n hand bit lot : Int32} (r0 : 0 ≤ rd) (r1 : rd ≤ 5) (w0 : 0 ≤ w) (w1 : w ≤ 8) (h0 : 0 ≤ hand) (h1 : hand ≤ 23) (b0 : 1 ≤ bit) (b1 : bit ≤ 3) (l0 : 2 ≤ lot) (l1 : lot ≤ 5) : (if rd = 5 then irm n 24 else qRd rd w hand bit lot) = pRead rd w n hand bit lot := by
  unfold pRead
  split
  · rfl
  · rename_i h
    exact (read_all r0 (rd4 r0 r1 h) w0 w1 h0 h1 b0 b1 l0 l1).1.symm
theorem ok_reads (rd wd n : Int32) : g_Ok (fX3_reads rd wd n) (fX4_reads rd wd n) := by
  intro σ hI
  have m := hI.2.2.1
  obtain ⟨-, -, -, h3, -, b, t, -, -⟩ := hI.1
  by_cases h : 0 ≤ rd ∧ rd < 6
  · have h5 : rd ≤ 5 := n_lt 6 5 (by decide) (by decide) h (by decide)
    by_cases k : 0 ≤ wd ∧ wd < 9
    · have k8 : wd ≤ 8 := n_lt 9 8 (by decide) (by decide) k (by decide)
      by_cases hn : 0 ≤ n
      · have e := mreadBy_eq rd wd n σ (g_nw σ)
        rw [putM_id m, pRead_q h.1 h5 k.1 k8 h3.1 h3.2 b.1 b.2 t.1 t.2] at e
        exact ⟨pRead rd wd n (σ 1 3) (σ 1 6) (σ 1 7), σ, σ, by simp only [fX3_reads, isNot_in _ h.1 h.2, isNot_in _ k.1 k.2, hn, readBy_eq _ _ _ _ _ hn, Option.bind_some, eq_self, if_true, if_false, i10, i01, m10, m20, m40, m60, m90], by simp only [fX4_reads, fX4_reads_b34, isIn_in _ h.1 h5, isIn_in _ k.1 k8, hn, e, Option.bind_some, eq_self, if_true, if_false, i10, i01, m10, m20, m40, m60, m90]; rfl, hI⟩
      · exact ⟨-4, g_rf 4 σ, g_rm 4 (g_rf 4 σ), by simp only [fX3_reads, fX3_reads_b18, isNot_in _ h.1 h.2, isNot_in _ k.1 k.2, hn, Option.bind_some, eq_self, if_true, if_false, i10, i01, m10, m20, m40, m60, m90, refuse_4], by simp only [fX4_reads, fX4_reads_b34, fX4_reads_b19, isIn_in _ h.1 h5, isIn_in _ k.1 k8, hn, Option.bind_some, eq_self, if_true, if_false, i10, i01, m10, m20, m40, m60, m90, no_4], In_rf 4 hI⟩
    · have k2 : ¬ (0 ≤ wd ∧ wd ≤ 8) := by grind
      exact ⟨-2, g_rf 2 σ, g_rm 2 (g_rf 2 σ), by simp only [fX3_reads, fX3_reads_b18, isNot_in _ h.1 h.2, isNot_out _ k, Option.bind_some, eq_self, if_true, if_false, i10, i01, m10, m20, m40, m60, m90, refuse_2], by simp only [fX4_reads, fX4_reads_b34, fX4_reads_b19, isIn_in _ h.1 h5, isIn_out _ k2, Option.bind_some, eq_self, if_true, if_false, i10, i01, m10, m20, m40, m60, m90, no_2], In_rf 2 hI⟩
  · have h2 : ¬ (0 ≤ rd ∧ rd ≤ 5) := by grind
    exact ⟨-2, g_rf 2 σ, g_rm 2 (g_rf 2 σ), by simp only [fX3_reads, fX3_reads_b18, isNot_out _ h, Option.bind_some, eq_self, if_true, if_false, i10, i01, m10, m20, m40, m60, m90, refuse_2], by simp only [fX4_reads, fX4_reads_b34, fX4_reads_b19, isIn_out _ h2, Option.bind_some, eq_self, if_true, if_false, i10, i01, m10, m20, m40, m60, m90, no_2], In_rf 2 hI⟩
-- strokes one behind the other
def g_run (cf : Nat → BS → Int32) : Nat → Nat → BS → Option Nat
  | 0, v, B => if B.1 2 = 24 then some v else none
  | m + 1, v, B => if B.1 2 = 24 then some v else g_run cf m (v + 1) (bStroke B (cf v B))
def g_end (cf : Nat → BS → Int32) : Nat → Nat → BS → BS
  | 0, _, B => B
  | m + 1, v, B => if B.1 2 = 24 then B else g_end cf m (v + 1) (bStroke B (cf v B))
theorem run_le (cf : Nat → BS → Int32) : ∀ m v B r, g_run cf m v B = some r → v ≤ r ∧ r ≤ v + m := by
  intro m
  induction m with
  | zero =>
    intro v B r h
    unfold g_run at h
    split at h
    · cases h
      omega
    · cases h
  | succ m ih =>
    intro v B r h
    unfold g_run at h
    split at h
    · cases h
      omega
    · have := ih _ _ _ h
      omega
theorem end_ok (cf : Nat → BS → Int32) (N : Nat) (hc : ∀ v B, v < N → okB B → B.1 2 ≠ 24 → 0 ≤ cf v B ∧ cf v B ≤ 23) : ∀ m v B, v + m = N → okB B → okB (g_end cf m v B) := by
  intro m
  induction m with
  | zero =>
    intro v B _ hB
    exact hB
  | succ m ih =>
    intro v B hv hB
    unfold g_end
    split
    · exact hB
    · rename_i hg
      have h := hc v B (by omega) hB hg
      exact ih _ _ (by omega) (bStroke_ok hB h.1 h.2)
def g_rd (rd : Int32) (v : Nat) (B : BS) : Int32 := pRead rd (pWord (B.1 3) (B.1 2) (B.1 5) (B.1 7)) (nI v) (B.1 3) (B.1 6) (B.1 7)
theorem rd_rng {rd : Int32} (r0 : 0 ≤ rd) (r1 : rd ≤ 5) : ∀ v B, v < 40 → okB B → B.1 2 ≠ 24 → 0 ≤ g_rd rd v B ∧ g_rd rd v B ≤ 23 := by
  intro v B hv hB hg
  have hw := word_rng' hB hg
  obtain ⟨-, -, -, h3, -, b, t, -, -⟩ := hB
  exact pRead_rng r0 r1 hw.1 hw.2 (nI_pos' (by omega)) h3.1 h3.2 b.1 b.2 t.1 t.2
def g_opt (d : Int32) (o : Option Nat) : Int32 := match o with
  | some r => nI r
  | none => d
theorem opt_some (d : Int32) (r : Nat) : g_opt d (some r) = nI r := rfl
theorem opt_none (d : Int32) : g_opt d none = d := rfl
theorem follow_cl {rd : Int32} (r0 : 0 ≤ rd) (r1 : rd ≤ 5) (σ : Sto) : ∀ m n v B, m < n → v + m = 40 → okB B → fX0_followBy_l2 5 n rd (nI v) (putB σ 5 B) = some (g_opt 41 (g_run (g_rd rd) m v B), putB σ 5 (g_end (g_rd rd) m v B)) := by
  intro m
  induction m with
  | zero =>
    intro n v B hn hv hB
    cases n with
    | zero => omega
    | succ n =>
      have : v = 40 := by omega
      subst this
      have h1 : (40 : Int32) ≤ nI 40 := by decide
      rw [fX0_followBy_l2, if_pos h1, putB_k]
      unfold g_run g_end
      split <;> rfl
  | succ m ih =>
    intro n v B hn hv hB
    cases n with
    | zero => omega
    | succ n =>
      have h1 : ¬ (40 : Int32) ≤ nI v := nI_ge (a := v) (b := 40) (by omega) (by decide)
      rw [fX0_followBy_l2, if_neg h1, putB_k]
      unfold g_run g_end
      by_cases hg : B.1 2 = 24
      · simp only [hg, if_true, opt_some]
      · have hr := rd_rng r0 r1 v B (by omega) hB hg
        have es := strokeOn_eq σ 5 B hr.1 hr.2 hB.2.2.1.1 hB.2.2.1.2
        have er := readBy_eq 5 rd (pWord (B.1 3) (B.1 2) (B.1 5) (B.1 7)) (nI v) (putB σ 5 B) (nI_pos' (by omega))
        rw [putB_k] at er
        simp only [hg, if_false, wordNow_eq, putB_k, Option.bind_some, er]
        unfold g_rd at es
        rw [es]
        simp only [Option.bind_some, nI_1]
        exact ih n (v + 1) _ (by omega) (by omega) (bStroke_ok hB hr.1 hr.2)
theorem follow_c {rd : Int32} (r0 : 0 ≤ rd) (r1 : rd ≤ 5) (σ : Sto) (B : BS) (hB : okB B) : fX0_followBy 5 rd (putB σ 5 B) = some (g_opt 41 (g_run (g_rd rd) 40 0 B), putB σ 5 (g_end (g_rd rd) 40 0 B)) := follow_cl r0 r1 σ 40 300 0 B (by decide) (by decide) hB
theorem follow_ok {rd : Int32} (r0 : 0 ≤ rd) (r1 : rd ≤ 5) {B : BS} (hB : okB B) : okB (g_end (g_rd rd) 40 0 B) := end_ok _ 40 (rd_rng r0 r1) 40 0 B (by decide) hB
theorem follow_ml {rd : Int32} (r0 : 0 ≤ rd) (r1 : rd ≤ 5) (τ : Sto) : ∀ m n v B, m < n → v + m = 40 → okB B → fX4_followBy_l8 n rd (nI v) (putM τ B) = (fX4_passesAll 1 0 (putM τ (g_end (g_rd rd) m v B))).bind fun q => some (g_opt (-9) (g_run (g_rd rd) m v B), q.2) := by
  intro m
  induction m with
  | zero =>
    intro n v B hn hv hB
    cases n with
    | zero => omega
    | succ n =>
      have : v = 40 := by omega
      subst this
      have h1 : (40 : Int32) ≤ nI 40 := by decide
      rw [fX4_followBy_l8, if_pos h1]
      unfold g_run g_end fX4_followBy_b51 fX4_followBy_b66
      simp only [putM_4]
      by_cases hg : B.1 2 = 24
      · simp only [hg, if_true, opt_some]
      · simp only [hg, if_false, opt_none]
  | succ m ih =>
    intro n v B hn hv hB
    cases n with
    | zero => omega
    | succ n =>
      have h1 : ¬ (40 : Int32) ≤ nI v := nI_ge (a := v) (b := 40) (by omega) (by decide)
      rw [fX4_followBy_l8, if_neg h1]
      unfold g_run g_end fX4_followBy_b51 fX4_followBy_b66
      simp only [putM_4, putM_5]
      by_cases hg : B.1 2 = 24
      · simp only [hg, if_true, opt_some]
      · have hr := rd_rng r0 r1 v B (by omega) hB hg
        have es := strokes_eq τ hB hr.1 hr.2
        have hw := word_rng' hB hg
        have er := mreadBy_eq rd (pWord (B.1 3) (B.1 2) (B.1 5) (B.1 7)) (nI v) τ B
        rw [pRead_q r0 r1 hw.1 hw.2 hB.2.2.2.1.1 hB.2.2.2.1.2 hB.2.2.2.2.2.1.1 hB.2.2.2.2.2.1.2 hB.2.2.2.2.2.2.1.1 hB.2.2.2.2.2.2.1.2] at er
        simp only [hg, if_false, wordFrom_eq, ← wordNow_B hB, Option.bind_some, er]
        unfold g_rd at es
        rw [es]
        simp only [Option.bind_some, nI_1]
        exact ih n (v + 1) _ (by omega) (by omega) (bStroke_ok hB hr.1 hr.2)
/-- what the reference changes in mind, more exactly -/
def g_Sk (σ τ : Sto) : Prop := (∀ a, a ≠ 17 → a ≠ 25 → τ a = σ a) ∧ (∀ j, j ≠ 16 → j ≠ 17 → τ 17 j = σ 17 j) ∧ (∀ j, j < 35 ∨ 70 ≤ j → τ 25 j = σ 25 j)
theorem Sk_refl (σ : Sto) : g_Sk σ σ := ⟨fun _ _ _ => rfl, fun _ _ _ => rfl, fun _ _ => rfl⟩
theorem Sk_trans {σ τ υ : Sto} (h : g_Sk σ τ) (k : g_Sk τ υ) : g_Sk σ υ := ⟨fun a a1 a2 => (k.1 a a1 a2).trans (h.1 a a1 a2), fun j j1 j2 => (k.2.1 j j1 j2).trans (h.2.1 j j1 j2), fun j hj => (k.2.2 j hj).trans (h.2.2 j hj)⟩
theorem Sk_Sm {σ τ : Sto} (h : g_Sk σ τ) : g_Sm σ τ := ⟨fun a a1 _ _ _ a5 _ => h.1 a a1 a5, fun j hj => h.2.1 j (by unfold g_sf at hj; omega) (by unfold g_sf at hj; omega), h.2.2⟩
theorem mind_k {τ τ' : Sto} {B C : BS} (hB : okB B) (hC : okB C) (h : ∀ a, τ' a = g_sv 1 B τ a) : ∃ υ, fX4_passesAll 1 0 (putM τ' C) = some ((), putM υ B) ∧ g_Sk τ υ := by
  have h' : τ' = g_sv 1 B τ := funext h
  subst h'
  have e := passes_back 1 (by decide) (g_sv 1 B τ) C B (by simpa using sv_kept 1 B τ) (fun j hj => (hC.1.2.2 j hj).trans (hB.1.2.2 j hj).symm)
  refine ⟨_, e, ?_⟩
  refine ⟨fun a a1 a5 => ?_, fun j h1 h2 => ?_, fun j hj => ?_⟩
  · simp [g_sv, g_cu, upS, setS, a1, a5]
  · simp [g_sv, g_cu, upS, setS, upd, h1, h2]
  · have : ¬ (35 ≤ j ∧ j < 67) := by omega
    simp [g_sv, g_cu, upS, setS, this]
theorem follow_m {rd : Int32} (r0 : 0 ≤ rd) (r1 : rd ≤ 5) (τ : Sto) {B : BS} (hB : okB B) : ∃ υ, fX4_followBy rd (putM τ B) = some (g_opt (-9) (g_run (g_rd rd) 40 0 B), putM υ B) ∧ g_Sk τ υ := by
  obtain ⟨υ, e, h⟩ := mind_k (τ := τ) (τ' := g_sv 1 B τ) hB (follow_ok r0 r1 hB) (fun _ => rfl)
  refine ⟨υ, ?_, h⟩
  unfold fX4_followBy
  rw [mind_save τ B]
  simp only [Option.bind_some]
  have k := follow_ml r0 r1 (g_sv 1 B τ) 40 300 0 B (by decide) (by decide) hB
  rw [nI_0] at k
  rw [k, e]
  simp only [Option.bind_some]
def g_fo (rd : Int32) (B : BS) : Option Nat := g_run (g_rd rd) 40 0 B
theorem fo_le {rd : Int32} {B : BS} {r : Nat} (h : g_fo rd B = some r) : r ≤ 40 := by
  have := run_le _ _ _ _ _ h
  omega
theorem opt_le40 {o : Option Nat} (h : ∀ r, o = some r → r ≤ 40) : (if g_opt 41 o ≤ 40 then g_opt 41 o else -9) = g_opt (-9) o := by
  cases o with
  | none => rfl
  | some r => exact if_pos (nI_le (b := 40) (h r rfl) (by decide))
theorem opt_min {o : Option Nat} (h : ∀ r, o = some r → r ≤ 40) : mnI 40 (g_opt 41 o) = nI (o.getD 40) := by
  cases o with
  | none => decide
  | some r =>
    have h1 : r ≤ 40 := h r rfl
    show mnI 40 (nI r) = nI r
    unfold mnI
    by_cases e : r = 40
    · subst e
      decide
    · exact if_pos (nI_lt (a := r) (b := 40) (by omega) (by decide))
theorem opt_else {o : Option Nat} (h : ∀ r, o = some r → r ≤ 40) (d : Nat) (σ : Sto) : fX4_orElse (g_opt (-9) o) (nI d) σ = some (nI (o.getD d), σ) := by
  cases o with
  | none => rfl
  | some r =>
    have h1 : r ≤ 40 := h r rfl
    unfold fX4_orElse
    exact if_pos (nI_pos' (by omega))
theorem opt_41 {o : Option Nat} : g_opt 41 o = nI (o.getD 41) := by
  cases o <;> rfl
theorem ok_follow (rd : Int32) : g_Ok (fX3_follow rd) (fX4_follow rd) := by
  by_cases h : 0 ≤ rd ∧ rd < 6
  · have h5 : rd ≤ 5 := n_lt 6 5 (by decide) (by decide) h (by decide)
    refine ok_query (fun σ => g_opt (-9) (g_fo rd (g_nw σ))) (c_query (v := fun B => g_opt (-9) (g_fo rd B)) ?_) (m_query (v := fun B => g_opt (-9) (g_fo rd B)) ?_) ?_
    · intro σ hn hX
      refine ⟨g_end (g_rd rd) 40 0 (g_nw σ), ?_, follow_ok h.1 h5 hn⟩
      have e := opt_le40 (o := g_fo rd (g_nw σ)) (fun r hr => fo_le hr)
      simp only [fX3_follow, isNot_in _ h.1 h.2, take51' hn hX, follow_c h.1 h5 _ _ hn, Option.bind_some, eq_self, if_true, if_false, i10, i01, m10, m20, m40, m60, m90, push]
      rw [← e]
      rfl
    · intro τ B hB
      obtain ⟨υ, e, k⟩ := follow_m h.1 h5 τ hB
      exact ⟨υ, by simp only [fX4_follow, isIn_in _ h.1 h5, e, Option.bind_some, eq_self, if_true, if_false, i10, i01, m10, m20, m40, m60, m90]; rfl, Sk_Sm k⟩
    · intro σ τ hI hS
      simp only [Sc_nw hS]
  · intro σ hI
    have h2 : ¬ (0 ≤ rd ∧ rd ≤ 5) := by grind
    exact ⟨-2, g_rf 2 σ, g_rm 2 (g_rf 2 σ), by simp only [fX3_follow, isNot_out _ h, Option.bind_some, eq_self, if_true, if_false, i10, i01, m10, m20, m40, m60, m90, refuse_2], by simp only [fX4_follow, isIn_out _ h2, Option.bind_some, eq_self, if_true, if_false, i10, i01, m10, m20, m40, m60, m90, no_2], In_rf 2 hI⟩
-- BEHIND
def g_beh (c : Int32) : Nat → BS → BS
  | 0, B => B
  | m + 1, B => g_beh c m (bStroke B c)
theorem beh_ok {c : Int32} (h0 : 0 ≤ c) (h1 : c ≤ 23) : ∀ m B, okB B → okB (g_beh c m B) := by
  intro m
  induction m with
  | zero => exact fun B h => h
  | succ m ih => exact fun B h => ih _ (bStroke_ok h h0 h1)
theorem beh_c {c : Int32} (h0 : 0 ≤ c) (h1 : c ≤ 23) (σ : Sto) (N : Nat) (hN : N ≤ 20) : ∀ m n v B, m < n → v + m = N → okB B → fX3_behind_l50 n c (nI N) (nI v) (putB σ 5 B) = some ((g_beh c m B).1 2, putB σ 5 (g_beh c m B)) := by
  intro m
  induction m with
  | zero =>
    intro n v B hn hv hB
    cases n with
    | zero => omega
    | succ n =>
      rw [fX3_behind_l50, if_pos (nI_le (by omega) (by omega)), putB_k]
      rfl
  | succ m ih =>
    intro n v B hn hv hB
    cases n with
    | zero => omega
    | succ n =>
      rw [fX3_behind_l50, if_neg (nI_ge (by omega) (by omega)), strokeOn_eq σ 5 B h0 h1 hB.2.2.1.1 hB.2.2.1.2]
      simp only [Option.bind_some, nI_1]
      exact ih n (v + 1) _ (by omega) (by omega) (bStroke_ok hB h0 h1)
theorem beh_m {c : Int32} (h0 : 0 ≤ c) (h1 : c ≤ 23) (τ : Sto) (N : Nat) (hN : N ≤ 20) : ∀ m n v B, m < n → v + m = N → okB B → fX4_behind_l38 n c (nI N) (nI v) (putM τ B) = (fX4_passesAll 1 0 (putM τ (g_beh c m B))).bind fun q => some ((g_beh c m B).1 2, q.2) := by
  intro m
  induction m with
  | zero =>
    intro n v B hn hv hB
    cases n with
    | zero => omega
    | succ n =>
      rw [fX4_behind_l38, if_pos (nI_le (by omega) (by omega)), putM_4]
      rfl
  | succ m ih =>
    intro n v B hn hv hB
    cases n with
    | zero => omega
    | succ n =>
      rw [fX4_behind_l38, if_neg (nI_ge (by omega) (by omega)), strokes_eq τ hB h0 h1]
      simp only [Option.bind_some, nI_1]
      exact ih n (v + 1) _ (by omega) (by omega) (bStroke_ok hB h0 h1)
theorem ok_behind (c n : Int32) : g_Ok (fX3_behind c n) (fX4_behind c n) := by
  by_cases h : 0 ≤ c ∧ c ≤ 23
  · by_cases k0 : 0 ≤ n
    · by_cases k1 : n ≤ 20
      · obtain ⟨N, hN, rfl⟩ := i32_nat 20 20 k0 k1 (by decide)
        refine ok_query (fun σ => (g_beh c N (g_nw σ)).1 2) (c_query (v := fun B => (g_beh c N B).1 2) ?_) (m_query (v := fun B => (g_beh c N B).1 2) ?_) ?_
        · intro σ hn hX
          have e := beh_c h.1 h.2 σ N hN N 300 0 (g_nw σ) (by omega) (by omega) hn
          rw [nI_0] at e
          refine ⟨g_beh c N (g_nw σ), ?_, beh_ok h.1 h.2 N _ hn⟩
          unfold fX3_behind
          rw [isNoCell_in _ h.1 h.2, Option.bind_some, if_pos rfl, if_pos k0, if_pos k1, take51' hn hX, Option.bind_some]
          exact e
        · intro τ B hB
          obtain ⟨υ, e, hk⟩ := mind_k (τ := τ) (τ' := g_sv 1 B τ) hB (beh_ok h.1 h.2 N _ hB) (fun _ => rfl)
          have e2 := beh_m h.1 h.2 (g_sv 1 B τ) N hN N 300 0 B (by omega) (by omega) hB
          rw [nI_0] at e2
          refine ⟨υ, ?_, Sk_Sm hk⟩
          unfold fX4_behind fX4_behind_b18
          rw [isCell_in _ h.1 h.2, Option.bind_some, if_neg (show ¬ (1 : Int32) = 0 by decide), bound_in _ k0 k1, Option.bind_some, if_pos rfl, mind_save, Option.bind_some]
          refine e2.trans ?_
          rw [e]
          rfl
        · intro σ τ hI hS
          simp only [Sc_nw hS]
      · intro σ hI
        exact ⟨-6, g_rf 6 σ, g_rm 6 (g_rf 6 σ), by simp only [fX3_behind, isNoCell_in _ h.1 h.2, k0, k1, Option.bind_some, eq_self, if_true, if_false, i10, i01, m10, m20, m40, m60, m90, refuse_6], by simp only [fX4_behind, fX4_behind_b18, isCell_in _ h.1 h.2, bound_hi _ k0 k1, Option.bind_some, eq_self, if_true, if_false, i10, i01, m10, m20, m40, m60, m90, no_6], In_rf 6 hI⟩
    · intro σ hI
      exact ⟨-4, g_rf 4 σ, g_rm 4 (g_rf 4 σ), by simp only [fX3_behind, isNoCell_in _ h.1 h.2, k0, Option.bind_some, eq_self, if_true, if_false, i10, i01, m10, m20, m40, m60, m90, refuse_4], by simp only [fX4_behind, fX4_behind_b18, isCell_in _ h.1 h.2, bound_lo _ k0, Option.bind_some, eq_self, if_true, if_false, i10, i01, m10, m20, m40, m60, m90, no_4], In_rf 4 hI⟩
  · intro σ hI
    exact ⟨-1, g_rf 1 σ, g_rm 1 (g_rf 1 σ), by simp only [fX3_behind, isNoCell_out _ h, Option.bind_some, eq_self, if_true, if_false, i10, i01, m10, m20, m40, m60, m90, refuse_1], by simp only [fX4_behind, fX4_behind_b18, isCell_out _ h, Option.bind_some, eq_self, if_true, if_false, i10, i01, m10, m20, m40, m60, m90, no_1], In_rf 1 hI⟩

