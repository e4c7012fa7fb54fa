/-! the pure part, 22: a BACK told -/
def g_sq (lt : Nat → Int32) : Nat → Nat → BS → BS × Option Nat
  | 0, _, B => (B, none)
  | m + 1, k, B => match g_tl lt (g_ps lt k) B with
    | some C => g_sq lt m (k + 1) C
    | none => (B, some k)
theorem go_5 {lt : Nat → Int32} {M i : Nat} (h : g_Go lt M i) : lt (g_ps lt i) = 105 ∨ lt (g_ps lt i) = 104 ∨ lt (g_ps lt i) = 109 ∨ lt (g_ps lt i) = 115 ∨ lt (g_ps lt i) = 111 := sh_b h.2.1
theorem sq_ok {lt : Nat → Int32} {M K : Nat} (hG : ∀ i, i < K → g_Go lt M i) : ∀ m k B, k + m = K → okB B → g_tm B → okB (g_sq lt m k B).1 ∧ g_tm (g_sq lt m k B).1 ∧ ∀ i, (g_sq lt m k B).2 = some i → i < K := by
  intro m
  induction m with
  | zero =>
    intro k B _ hB hT
    exact ⟨hB, hT, fun i h => by cases h⟩
  | succ m ih =>
    intro k B hk hB hT
    have hg := hG k (by omega)
    unfold g_sq
    cases ht : g_tl lt (g_ps lt k) B with
    | none => exact ⟨hB, hT, fun i h => by cases h; omega⟩
    | some C =>
      have hc := tl_ok (vd_of hg.2.2) (go_5 hg) hB hT ht
      exact ih (k + 1) C (by omega) hc.1 hc.2
def g_ca (lt : Nat → Int32) (K : Nat) (o : Option Nat) : Int32 := match o with
  | none => nI K
  | some i => -2000 - nI (g_ps lt i)
theorem ct_l (σ : Sto) {L : Nat → Int32} {M K : Nat} (hM : M ≤ 80) (h9 : σ 9 1 = nI M) (h10 : σ 10 = L) (hL : ∀ j, 0 ≤ L j ∧ L j ≤ 255) (hG : ∀ i, i < K → g_Go (g_lt L M) M i) (hK : K ≤ 30) (hE : M ≤ g_ps (g_lt L M) K) : ∀ m n k B, m < n → k + m = K → okB B → g_tm B → fX2_tellTo_l23 5 n (nI k) (nI (g_ps (g_lt L M) k)) (nI k) (putB σ 5 B) = some (g_ca (g_lt L M) K (g_sq (g_lt L M) m k B).2, putB σ 5 (g_sq (g_lt L M) m k B).1) := by
  have k9 : ∀ C, putB σ 5 C 9 1 = nI M := fun C => by rw [putB_ne _ _ _ (by decide) (by decide), h9]
  have k10 : ∀ C, putB σ 5 C 10 = L := fun C => by rw [putB_ne _ _ _ (by decide) (by decide), h10]
  intro m
  induction m with
  | zero =>
    intro n k B hn hk hB hT
    obtain ⟨n, rfl⟩ : ∃ q, n = q + 1 := ⟨n - 1, by omega⟩
    have hp := ps_le (g_lt L M) k
    have : k = K := by omega
    subst this
    rw [fX2_tellTo_l23, if_neg (show ¬ (80 : Int32) ≤ nI k from nI_ge (b := 80) (by omega) (by decide)), k9, if_pos (nI_le hE (by omega))]
    rfl
  | succ m ih =>
    intro n k B hn hk hB hT
    obtain ⟨n, rfl⟩ : ∃ q, n = q + 1 := ⟨n - 1, by omega⟩
    have hg := hG k (by omega)
    have hp := ps_le (g_lt L M) k
    have hv := vd_of hg.2.2
    have h5 := go_5 hg
    have e := tl_c σ hM h9 h10 hL (show g_ps (g_lt L M) k < 2 ^ 20 by omega) hv h5 hB
    rw [fX2_tellTo_l23, if_neg (show ¬ (80 : Int32) ≤ nI k from nI_ge (b := 80) (by omega) (by decide)), k9, if_neg (nI_ge hg.1 (by omega)), e, Option.bind_some]
    unfold g_sq
    cases ht : g_tl (g_lt L M) (g_ps (g_lt L M) k) B with
    | none => rfl
    | some C =>
      have hc := tl_ok hv h5 hB hT ht
      have el := lt_eq (putB σ 5 C) hM (k9 C) (k10 C) (show g_ps (g_lt L M) k < 2 ^ 31 by omega)
      have hs := sh_lt (g_lt L M (g_ps (g_lt L M) k))
      have z1 : (1 : Int32) = nI 1 := rfl
      show (if (1 : Int32) = 0 then _ else _) = _
      rw [if_neg (show ¬ (1 : Int32) = 0 by decide)]
      show (fX2_letterAt (nI (g_ps (g_lt L M) k)) (putB σ 5 C)).bind _ = _
      rw [el, Option.bind_some, shape_eq, Option.bind_some, if_pos (by dsimp only; omega), length_eq (by dsimp only; omega), Option.bind_some, nI_1, z1, nI_add, nI_add, show g_ps (g_lt L M) k + (1 + g_ln (g_sh (g_lt L M (g_ps (g_lt L M) k)))) = g_ps (g_lt L M) (k + 1) by rw [g_ps, Nat.add_assoc]]
      exact ih n (k + 1) C (by omega) (by omega) hc.1 hc.2
theorem mt_l (τ : Sto) {lt : Nat → Int32} {M K : Nat} (hG : ∀ i, i < K → g_Go lt M i) (hK : K ≤ 30) (h13 : τ 17 13 = nI K) (hR : g_Rc τ lt K) : ∀ m n k B, m < n → k + m = K → okB B → g_tm B → match (g_sq lt m k B).2 with
    | none => fX4_back_l86 n (nI k) (putM τ B) = some (nI K, putM τ (g_sq lt m k B).1)
    | some i => ∃ B' : BS, B'.2 = (g_sq lt m k B).1.2 ∧ fX4_back_l86 n (nI k) (putM τ B) = (fX4_passesAll 1 0 (putM τ B')).bind fun q3 => some (-2000 - q3.2 23 i, q3.2) := by
  have k13 : ∀ C, putM τ C 17 13 = nI K := fun C => by rw [putM_17 _ _ (by decide), h13]
  intro m
  induction m with
  | zero =>
    intro n k B hn hk hB hT
    obtain ⟨n, rfl⟩ : ∃ q, n = q + 1 := ⟨n - 1, by omega⟩
    show fX4_back_l86 (n + 1) (nI k) (putM τ B) = some (nI K, putM τ B)
    rw [fX4_back_l86, k13, if_pos (nI_le (by omega) (by omega))]
  | succ m ih =>
    intro n k B hn hk hB hT
    obtain ⟨n, rfl⟩ : ∃ q, n = q + 1 := ⟨n - 1, by omega⟩
    have hg := hG k (by omega)
    have hv := vd_of hg.2.2
    have h5 := go_5 hg
    have hr := hR k (by omega)
    have e := tl_m τ (k := k) (by omega) hr.1 hr.2.2 hv h5 hB hT
    have i40 : inb (nI k) 40 = true := inb_nI (by omega) (by decide)
    have ck : (nI k).toNatClampNeg = k := nI_clamp (by omega)
    have e0 : fX4_back_l86 (n + 1) (nI k) (putM τ B) = (fX4_comes (nI k) (putM τ B)).bind fun q2 => if q2.1 = 0 then (fX4_passesAll 1 0 q2.2).bind fun q3 => some (-2000 - q3.2 23 k, q3.2) else fX4_back_l86 n (nI (k + 1)) q2.2 := by
      rw [fX4_back_l86, k13, if_neg (nI_ge (by omega) (by omega))]
      simp only [i40, if_true, ck, nI_1]
    unfold g_sq
    cases ht : g_tl lt (g_ps lt k) B with
    | none =>
      rw [ht] at e
      obtain ⟨B', h1, h2⟩ := e
      refine ⟨B', h1, ?_⟩
      rw [e0, h2, Option.bind_some]
      exact if_pos rfl
    | some C =>
      have hc := tl_ok hv h5 hB hT ht
      rw [ht] at e
      have e' : fX4_comes (nI k) (putM τ B) = some (1, putM τ C) := e
      have hi := ih n (k + 1) C (by omega) (by omega) hc.1 hc.2
      have e1 : fX4_back_l86 (n + 1) (nI k) (putM τ B) = fX4_back_l86 n (nI (k + 1)) (putM τ C) := by
        rw [e0, e', Option.bind_some]
        exact if_neg (show ¬ (1 : Int32) = 0 by decide)
      rw [e1]
      exact hi
theorem putM_keep' {σ τ : Sto} (h : g_Mf σ) (e17 : ∀ j, j = 3 ∨ j = 4 ∨ j = 5 ∨ j = 6 → τ 17 j = σ 17 j) (e19 : τ 19 = σ 19) (e20 : τ 20 = σ 20) : putM τ (g_nw σ) = τ := by
  have e := putM_id h
  funext a j
  by_cases h17 : a = 17
  · subst h17
    by_cases hj : j = 3 ∨ j = 4 ∨ j = 5 ∨ j = 6
    · have h1 := e17 j hj
      rw [putM_at7 (σ := σ) _ h1, e, h1]
    · rw [putM_17 _ _ (by omega)]
  · by_cases h19 : a = 19
    · subst h19
      rw [putM_at (σ := σ) _ (by decide) e19, e, e19]
    · by_cases h20 : a = 20
      · subst h20
        rw [putM_at (σ := σ) _ (by decide) e20, e, e20]
      · rw [putM_ne _ _ ⟨h17, h19, h20⟩]
theorem Sc_of_Sm {σ τ : Sto} (h : g_Sm σ τ) : g_Sc σ τ := by
  refine ⟨fun a ha => ?_, fun j hj => h.2.1 j hj, fun j hj => h.2.2 j (Or.inl hj), fun hz => ?_⟩
  · unfold g_sr at ha
    exact h.1 a (by omega) (by omega) (by omega) (by omega) (by omega) (by omega)
  · unfold g_Zm at *
    rw [h.1 5 (by decide) (by decide) (by decide) (by decide) (by decide) (by decide), h.1 6 (by decide) (by decide) (by decide) (by decide) (by decide) (by decide), h.1 7 (by decide) (by decide) (by decide) (by decide) (by decide) (by decide), h.1 8 (by decide) (by decide) (by decide) (by decide) (by decide) (by decide)]
    exact hz
theorem Sm_fr {σ τ : Sto} {x y : Int32} (h : g_Fr (upS (upS σ 17 12 x) 17 13 y) τ) : g_Sm (upS σ 17 11 0) (upS τ 17 11 0) := by
  refine ⟨fun a a1 a2 a3 a4 a5 a6 => ?_, fun j hj => ?_, fun j hj => ?_⟩
  · rw [upS_ne a1, upS_ne a1, h.1 a a1 a2 a3 a4, upS_ne a1, upS_ne a1]
  · unfold g_sf at hj
    rw [upS_app, upS_app]
    split
    · rfl
    · rw [h.2 j (by omega) (by omega), upS_app, upS_app, if_neg (by omega), if_neg (by omega)]
  · rw [upS_ne (by decide), upS_ne (by decide), h.1 25 (by decide) (by decide) (by decide) (by decide), upS_ne (by decide), upS_ne (by decide)]
theorem Sm_sv (τ : Sto) (B : BS) : g_Sm τ (g_sv 1 B τ) := by
  refine ⟨fun a a1 a2 a3 a4 a5 a6 => ?_, fun j hj => ?_, fun j hj => ?_⟩
  · simp [g_sv, g_cu, upS, setS, a1, a5]
  · unfold g_sf at hj
    have h1 : j ≠ 16 := by omega
    have h2 : j ≠ 17 := by omega
    simp [g_sv, g_cu, upS, setS, upd, h1, h2]
  · have : ¬ (35 ≤ j ∧ j < 67) := by omega
    simp [g_sv, g_cu, upS, setS, this]
theorem Sm_cu (τ : Sto) (c : Nat) : g_Sm τ (g_cu τ 0 c) := by
  refine ⟨fun a a1 a2 a3 a4 a5 a6 => ?_, fun j hj => ?_, fun j hj => ?_⟩
  · simp [g_cu, upS, a1]
  · unfold g_sf at hj
    have h1 : j ≠ 16 := by omega
    have h2 : j ≠ 17 := by omega
    simp [g_cu, upS, upd, h1, h2]
  · simp [g_cu, upS]
/-- the letters gone on both sides -/
theorem In_gone {σ : Sto} (hI : g_In σ) : g_In (upS (upS σ 9 1 0) 17 11 0) := by
  obtain ⟨l1, l2, l3, l4⟩ := hI.2.2.2.2.2.2.1
  refine In_le hI ?_ ?_ ?_
  · intro a ha
    rw [upS_ne (by omega), upS_ne (by omega)]
  · intro j hj
    simp [upS, upd, hj.1]
  · refine ⟨by simp [upS, upd], ?_, ?_, ?_⟩
    · have : upS (upS σ 9 1 0) 17 11 0 9 1 = 0 := by simp [upS, upd]
      rw [this]
      decide
    · rw [upS_ne (by decide), upS_ne (by decide), upS_ne (by decide), upS_ne (by decide), l3]
    · rw [upS_ne (by decide), upS_ne (by decide)]
      exact l4
theorem neg_le {n : Nat} (h : n < 1000) (c : Int32) (hc : c = -1000 ∨ c = -2000) : c - nI n ≤ 0 := by
  have h0 := nI_pos' (n := n) (by omega)
  have h1 : nI n ≤ 1000 := nI_le (b := 1000) (by omega) (by decide)
  rcases hc with rfl | rfl <;> grind
theorem glt_0 (L : Nat → Int32) (j : Nat) : g_lt L 0 j = -1 := if_neg (by omega)
theorem pz_le (lt : Nat → Int32) (M : Nat) (hM : M ≤ 80) : ∀ f p, p ≤ 200 → (g_pz lt M f p).1 ≤ 200 := by
  intro f
  induction f with
  | zero => exact fun p h => h
  | succ f ih =>
    intro p hp
    unfold g_pz
    have hw := (wk_le lt (g_sh (lt p)) (g_ln (g_sh (lt p))) 0 (p + 1)).2.1
    have : ∀ s, s < 5 → g_ln s ≤ 4 := by decide
    have := this _ (sh_lt (lt p))
    split
    · exact hp
    · split
      · exact hp
      · split
        · exact ih _ (by omega)
        · omega
/-- the reference's first look, from the store that the class leaves -/
theorem fl_m {σ1 : Sto} {L : Nat → Int32} {M : Nat} (hM : M ≤ 80) (h11 : σ1 17 11 = nI M) (h21 : σ1 21 = L) : ((M = 0 ∨ (g_pz (g_lt L M) M 30 0).2 = false) ∧ ∃ τ', fX4_back σ1 = some (-1000 - nI (if M = 0 then 0 else (g_pz (g_lt L M) M 30 0).1), upS τ' 17 11 0) ∧ g_Fr (upS (upS σ1 17 12 0) 17 13 0) τ') ∨ (0 < M ∧ (g_pz (g_lt L M) M 30 0).2 = true ∧ ∃ K τ', 0 < K ∧ K ≤ 30 ∧ M ≤ g_ps (g_lt L M) K ∧ (∀ i, i < K → g_Go (g_lt L M) M i) ∧ fX4_back σ1 = ((fX4_passesAll 1 1 (upS τ' 17 11 0)).bind fun q1 => fX4_back_l86 300 0 q1.2) ∧ τ' 17 13 = nI K ∧ g_Rc τ' (g_lt L M) K ∧ g_Fr (upS (upS σ1 17 12 0) 17 13 0) τ') := by
  have hp : g_Hp (upS (upS σ1 17 12 0) 17 13 0) L M (g_ps (g_lt L M) 0) := by
    refine ⟨?_, ?_, ?_⟩
    · rw [← h11]
      simp [upS_app]
    · rw [upS_ne (by decide), upS_ne (by decide), h21]
    · simp [upS_app]
      rfl
  have h13 : upS (upS σ1 17 12 0) 17 13 0 17 13 = nI 0 := by
    simp [upS_app]
    rfl
  have eb : fX4_back σ1 = fX4_back_l12 300 1 (upS (upS σ1 17 12 0) 17 13 0) := rfl
  have gz : g_ps (g_lt L M) 0 = 0 := rfl
  by_cases h0 : M = 0
  · refine Or.inl ⟨Or.inl h0, upS (upS (upS σ1 17 12 0) 17 13 0) 17 13 (upS (upS σ1 17 12 0) 17 13 0 17 13 + 0), ?_, Fr_13 _ _⟩
    have h4 : g_sh (g_lt L M (g_ps (g_lt L M) 0)) = 4 := by
      subst h0
      rw [glt_0]
      decide
    have e12 : upS (upS (upS σ1 17 12 0) 17 13 0) 17 13 (upS (upS σ1 17 12 0) 17 13 0 17 13 + 0) 17 12 = 0 := by simp [upS_app]
    have e12' : ∀ τ' : Sto, τ' 17 12 = 0 → fX4_back_b60 0 τ' = some (-1000 - nI 0, upS τ' 17 11 0) := by
      intro τ' h
      unfold fX4_back_b60 fX4_back_b65
      rw [if_pos rfl]
      have : upS τ' 17 11 0 17 12 = nI 0 := by
        rw [← show τ' 17 12 = nI 0 from h]
        simp [upS_app]
      rw [this]
    rw [eb, fX4_back_l12, if_neg (show ¬ (1 : Int32) = 0 by decide), hp.2.2, hp.1, h13, if_pos h0]
    have hlt : ¬ nI (g_ps (g_lt L M) 0) < nI M := nI_nlt (by omega) (by omega)
    rw [if_neg hlt, if_pos (show nI 0 = 0 from rfl)]
    unfold fX4_back_b34
    rw [st_bad hM hp (show g_ps (g_lt L M) 0 < 2 ^ 27 by omega) h4, Option.bind_some, if_pos rfl, ml_b53, fX4_back_l12, if_pos rfl]
    exact e12' _ e12
  · rcases ml hM (by omega) 30 300 0 (upS (upS σ1 17 12 0) 17 13 0) (by decide) (by decide) (by omega) hp h13 (fun i hi => by omega) with ⟨c1, τ', c2, c3, c4⟩ | ⟨c1, K, τ', c2, c3, c4, c5, c6, c7, c8, c9⟩
    · refine Or.inl ⟨Or.inr c1, τ', ?_, c4⟩
      rw [eb, c2, if_neg h0]
      unfold fX4_back_b60 fX4_back_b65
      rw [if_pos rfl]
      have : upS τ' 17 11 0 17 12 = nI (g_pz (g_lt L M) M 30 (g_ps (g_lt L M) 0)).1 := by
        rw [← c3]
        simp [upS_app]
      rw [this]
      rfl
    · refine Or.inr ⟨by omega, c1, K, τ', ?_, c3, c4, fun i hi => c5 i (by omega) hi, ?_, c7, c8, c9⟩
      · rcases Nat.eq_zero_or_pos K with e | e
        · subst e
          have : g_ps (g_lt L M) 0 = 0 := rfl
          omega
        · exact e
      · rw [eb, c6]
        unfold fX4_back_b60 fX4_back_b65
        rw [if_neg (show ¬ (1 : Int32) = 0 by decide)]
theorem Rc_congr {τ υ : Sto} {lt : Nat → Int32} {K : Nat} (h22 : υ 22 = τ 22) (h23 : υ 23 = τ 23) (h24 : υ 24 = τ 24) (h : g_Rc τ lt K) : g_Rc υ lt K := by
  intro i hi
  rw [h22, h23, h24]
  exact h i hi
theorem take15 {σ : Sto} {C : BS} (hn : okB (g_nw σ)) (hC : okB C) : fX0_take 1 5 (upS (putB σ 5 C) 9 1 0) = some ((), putB (upS (putB σ 5 C) 9 1 0) 1 C) := by
  have h1 : upS (putB σ 5 C) 9 1 0 5 = C.1 := by rw [upS_ne (by decide), putB_k]
  have h2 : upS (putB σ 5 C) 9 1 0 6 = C.2 := by rw [upS_ne (by decide), putB_k1]
  have h3 : upS (putB σ 5 C) 9 1 0 1 = (g_nw σ).1 := by rw [upS_ne (by decide), putB_ne _ _ _ (by decide) (by decide)]; rfl
  have h4 : upS (putB σ 5 C) 9 1 0 2 = (g_nw σ).2 := by rw [upS_ne (by decide), putB_ne _ _ _ (by decide) (by decide)]; rfl
  rw [take_eq _ (by decide) (by decide) (by decide) ?_ ?_, h1, h2]
  · intro j hj
    rw [h1, h3]
    rcases hj with rfl | hj
    · exact hn.1.1.trans hC.1.1.symm
    · exact (hn.1.2.1 j hj).trans (hC.1.2.1 j hj).symm
  · intro j hj
    rw [h2, h4]
    exact (hn.1.2.2 j hj).trans (hC.1.2.2 j hj).symm
theorem ok_back : g_Ok fX3_back fX4_back := by
  intro σ hI
  have hI0 := hI
  obtain ⟨hn, hT, m, hz, -, -, ⟨l1, l2, l3, l4⟩, -, -⟩ := hI0
  obtain ⟨M, hM, e9⟩ := i32_nat 80 80 l2.1 l2.2 (by decide)
  have c9 : ∀ C, putB σ 5 C 9 1 = nI M := fun C => by rw [putB_ne _ _ _ (by decide) (by decide), e9]
  have c10 : ∀ C, putB σ 5 C 10 = σ 10 := fun C => putB_ne _ _ _ (by decide) (by decide)
  have efw := fw_eq (putB σ 5 (g_nw σ)) hM (c9 _) (c10 _) l4
  have et : fX3_back σ = (fX2_tellTo 5 (putB σ 5 (g_nw σ))).bind fun q2 => fX3_back_b31 q2.1 (upS q2.2 9 1 0) := by
    unfold fX3_back
    rw [take51' hn hz.1, Option.bind_some]
  -- the reference's look does not hang on what the class wrote
  have hfl : ∀ σ1 : Sto, σ1 17 = σ 17 → σ1 21 = σ 21 → _ := fun σ1 h17 h21 => fl_m (σ1 := σ1) (L := σ 10) hM (by rw [h17, l1, e9]) (by rw [h21, l3])
  by_cases hbad : M = 0 ∨ (g_pz (g_lt (σ 10) M) M 30 0).2 = false
  · -- a FAULT of the first kind
    have hw : (if M = 0 then (0 : Int32) else if (g_pz (g_lt (σ 10) M) M 30 0).2 = true then -1 else nI (g_pz (g_lt (σ 10) M) M 30 0).1) = nI (if M = 0 then 0 else (g_pz (g_lt (σ 10) M) M 30 0).1) := by
      by_cases h0 : M = 0
      · rw [if_pos h0, if_pos h0]
        rfl
      · have h2 := hbad.resolve_left h0
        rw [if_neg h0, if_neg h0, h2, if_neg Bool.false_ne_true]
    have hb2 : (if M = 0 then 0 else (g_pz (g_lt (σ 10) M) M 30 0).1) < 1000 := by
      have := pz_le (g_lt (σ 10) M) M hM 30 0 (by decide)
      split <;> omega
    rw [hw] at efw
    have s1 : fX3_back σ = some (-1000 - nI (if M = 0 then 0 else (g_pz (g_lt (σ 10) M) M 30 0).1), upS (putB σ 5 (g_nw σ)) 9 1 0) := by
      rw [et]
      unfold fX2_tellTo
      rw [efw, Option.bind_some, if_neg (nI_pos (by omega)), Option.bind_some]
      unfold fX3_back_b31
      rw [if_pos (neg_le hb2 _ (Or.inl rfl))]
    have h17 : upS (putB σ 5 (g_nw σ)) 9 1 0 17 = σ 17 := by rw [upS_ne (by decide), putB_ne _ _ _ (by decide) (by decide)]
    have h21 : upS (putB σ 5 (g_nw σ)) 9 1 0 21 = σ 21 := by rw [upS_ne (by decide), putB_ne _ _ _ (by decide) (by decide)]
    rcases hfl _ h17 h21 with ⟨-, τ', s2, fr⟩ | ⟨c0, c1, -⟩
    · refine ⟨_, _, _, s1, s2, ?_⟩
      have hA := In_gone (Sc_inv (Sc_B5 hn) hI)
      exact Sc_inv (Sc_of_Sm (Sm_fr fr)) hA
    · rcases hbad with h | h
      · omega
      · rw [h] at c1
        cases c1
  · -- the letters are a BACK's
    have h0 : 0 < M := by
      rcases Nat.eq_zero_or_pos M with h | h
      · exact absurd (Or.inl h) hbad
      · exact h
    have hpz : (g_pz (g_lt (σ 10) M) M 30 0).2 = true := by
      cases h : (g_pz (g_lt (σ 10) M) M 30 0).2 with
      | true => rfl
      | false => exact absurd (Or.inr h) hbad
    rw [if_neg (by omega), if_pos hpz] at efw
    -- how many STATEMENTS: by the reference's look at the first store
    obtain ⟨K, hK0, hK, hE, hG⟩ : ∃ K, 0 < K ∧ K ≤ 30 ∧ M ≤ g_ps (g_lt (σ 10) M) K ∧ ∀ i, i < K → g_Go (g_lt (σ 10) M) M i := by
      rcases hfl σ rfl rfl with ⟨c, -⟩ | ⟨-, -, K, τ', k1, k2, k3, k4, -⟩
      · exact absurd c hbad
      · exact ⟨K, k1, k2, k3, k4⟩
    have hsq := sq_ok hG K 0 (g_nw σ) (by omega) hn hT
    have ec := ct_l σ hM e9 rfl l4 hG hK hE K 300 0 (g_nw σ) (by omega) (by omega) hn hT
    have g0 : g_ps (g_lt (σ 10) M) 0 = 0 := rfl
    rw [g0, nI_0] at ec
    have et2 : fX2_tellTo 5 (putB σ 5 (g_nw σ)) = some (g_ca (g_lt (σ 10) M) K (g_sq (g_lt (σ 10) M) K 0 (g_nw σ)).2, putB σ 5 (g_sq (g_lt (σ 10) M) K 0 (g_nw σ)).1) := by
      unfold fX2_tellTo
      rw [efw, Option.bind_some, if_pos (show (-1 : Int32) < 0 by decide)]
      exact ec
    generalize hC : (g_sq (g_lt (σ 10) M) K 0 (g_nw σ)).1 = C at *
    obtain ⟨hC1, hC2, hC3⟩ := hsq
    -- the reference's way from a store of the class's
    have ref : ∀ σ1 : Sto, (∀ a, a = 17 ∨ a = 19 ∨ a = 20 ∨ a = 21 → σ1 a = σ a) → ∃ τs : Sto, g_Sm (upS σ1 17 11 0) τs ∧ (∀ o, o < 32 → τs 25 (35 + o) = encB (g_nw σ) o) ∧ τs 23 = τs 23 ∧ fX4_back σ1 = fX4_back_l86 300 0 (putM τs (g_nw σ)) ∧ ∃ K', M ≤ g_ps (g_lt (σ 10) M) K' ∧ (∀ i, i < K' → g_Go (g_lt (σ 10) M) M i) ∧ K' ≤ 30 ∧ τs 17 13 = nI K' ∧ g_Rc τs (g_lt (σ 10) M) K' := by
      intro σ1 hk
      rcases hfl σ1 (hk 17 (by decide)) (hk 21 (by decide)) with ⟨c, -⟩ | ⟨-, -, K', τ', k1, k2, k3, k4, k5, k6, k7, k8⟩
      · exact absurd c hbad
      · have e2 : putM (upS τ' 17 11 0) (g_nw σ) = upS τ' 17 11 0 := by
          refine putM_keep' m (fun j hj => ?_) ?_ ?_
          · rw [upS_app, if_neg (by omega), k8.2 j (by omega) (by omega), upS_app, upS_app, if_neg (by omega), if_neg (by omega), hk 17 (by decide)]
          · rw [upS_ne (by decide), k8.1 19 (by decide) (by decide) (by decide) (by decide), upS_ne (by decide), upS_ne (by decide), hk 19 (by decide)]
          · rw [upS_ne (by decide), k8.1 20 (by decide) (by decide) (by decide) (by decide), upS_ne (by decide), upS_ne (by decide), hk 20 (by decide)]
        have es := mind_save (upS τ' 17 11 0) (g_nw σ)
        rw [e2] at es
        refine ⟨g_sv 1 (g_nw σ) (upS τ' 17 11 0), Sm_trans (Sm_fr k8) (Sm_sv _ _), by simpa using sv_kept 1 (g_nw σ) (upS τ' 17 11 0), rfl, ?_, K', k3, k4, k2, ?_, ?_⟩
        · rw [k5, es, Option.bind_some]
        · rw [← k6]
          simp [g_sv, g_cu, upS, setS, upd]
        · refine Rc_congr ?_ ?_ ?_ k7
          · simp [g_sv, g_cu, upS, setS]
          · simp [g_sv, g_cu, upS, setS]
          · simp [g_sv, g_cu, upS, setS]
    have hKK : ∀ K', M ≤ g_ps (g_lt (σ 10) M) K' → (∀ i, i < K' → g_Go (g_lt (σ 10) M) M i) → K' = K := by
      intro K' h1 h2
      rcases Nat.lt_trichotomy K' K with h | h | h
      · have := (hG K' h).1
        omega
      · exact h
      · have := (h2 K h).1
        omega
    cases hf : (g_sq (g_lt (σ 10) M) K 0 (g_nw σ)).2 with
    | none =>
      rw [hf] at et2
      have s1 : fX3_back σ = some (nI K, putB (upS (putB σ 5 C) 9 1 0) 1 C) := by
        rw [et, et2, Option.bind_some]
        unfold fX3_back_b31
        have : g_ca (g_lt (σ 10) M) K none = nI K := rfl
        rw [this, if_neg (nI_nle hK0 (by omega)), take15 hn hC1]
        rfl
      obtain ⟨τs, q1, q2, -, q3, K', q4, q5, q6, q7, q8⟩ := ref (putB (upS (putB σ 5 C) 9 1 0) 1 C) (fun a ha => by rw [putB_ne _ _ _ (by omega) (by omega), upS_ne (by omega), putB_ne _ _ _ (by omega) (by omega)])
      have ek := hKK K' q4 q5
      subst ek
      have hm := mt_l τs hG hK q7 q8 K' 300 0 (g_nw σ) (by omega) (by omega) hn hT
      rw [hf, hC, nI_0] at hm
      refine ⟨nI K', _, putM τs C, s1, q3.trans hm, ?_⟩
      have hA := In_gone (In_put (Sc_inv (Sc_B5 hC1) hI) hC1 hC2)
      have eA : upS (upS (putM (putB (putB σ 5 C) 1 C) C) 9 1 0) 17 11 0 = putM (upS (putB (upS (putB σ 5 C) 9 1 0) 1 C) 17 11 0) C := by
        rw [putM_upf _ _ _ _ (by decide), putM_up7 _ _ _ (by decide)]
        congr 2
        funext a i
        simp only [upS_app, putB, setS]
        by_cases h1 : a = 1
        · subst h1; simp
        · by_cases h2 : a = 2
          · subst h2; simp
          · simp [h1, h2, upS_app, setS]
      rw [eA] at hA
      exact Sc_inv (Sc_put C q1) hA
    | some i =>
      rw [hf] at et2
      have hi := hC3 i hf
      have hpi := ps_le (g_lt (σ 10) M) i
      have s1 : fX3_back σ = some (-2000 - nI (g_ps (g_lt (σ 10) M) i), upS (putB σ 5 C) 9 1 0) := by
        rw [et, et2, Option.bind_some]
        unfold fX3_back_b31
        have : g_ca (g_lt (σ 10) M) K (some i) = -2000 - nI (g_ps (g_lt (σ 10) M) i) := rfl
        rw [this, if_pos (neg_le (by omega) _ (Or.inr rfl))]
      obtain ⟨τs, q1, q2, -, q3, K', q4, q5, q6, q7, q8⟩ := ref (upS (putB σ 5 C) 9 1 0) (fun a ha => by rw [upS_ne (by omega), putB_ne _ _ _ (by omega) (by omega)])
      have ek := hKK K' q4 q5
      subst ek
      have hm := mt_l τs hG hK q7 q8 K' 300 0 (g_nw σ) (by omega) (by omega) hn hT
      rw [hf, hC, nI_0] at hm
      obtain ⟨B', h1, h2⟩ := hm
      have eb := passes_back 1 (by decide) τs B' (g_nw σ) (by simpa using q2) (fun j hj => by rw [h1]; exact (hC1.1.2.2 j hj).trans (hn.1.2.2 j hj).symm)
      have z1 : nI 1 = (1 : Int32) := rfl
      rw [z1] at eb
      have r23 : putM (g_cu τs 0 (35 * 1 + 32)) (g_nw σ) 23 i = nI (g_ps (g_lt (σ 10) M) i) := by
        rw [putM_ne _ _ (by decide)]
        have : g_cu τs 0 (35 * 1 + 32) 23 = τs 23 := by simp [g_cu, upS]
        rw [this]
        exact (q8 i hi).2.1
      refine ⟨-2000 - nI (g_ps (g_lt (σ 10) M) i), _, putM (g_cu τs 0 (35 * 1 + 32)) (g_nw σ), s1, ?_, ?_⟩
      · rw [q3, h2, eb, Option.bind_some]
        dsimp only
        rw [r23]
      · have hA := In_gone (Sc_inv (Sc_B5 hC1) hI)
        have enw : g_nw (upS (upS (putB σ 5 C) 9 1 0) 17 11 0) = g_nw σ := by
          unfold g_nw
          rw [upS_ne (by decide), upS_ne (by decide), upS_ne (by decide), upS_ne (by decide), putB_ne _ _ _ (by decide) (by decide), putB_ne _ _ _ (by decide) (by decide)]
        have := Sc_Sm hA.2.2.1 (Sm_trans q1 (Sm_cu τs (35 * 1 + 32)))
        rw [enw] at this
        exact Sc_inv this hA

