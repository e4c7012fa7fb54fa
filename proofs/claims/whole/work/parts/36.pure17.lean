/-! the pure part, 17: FEWEST -/
def g_ff (p : Nat → Bool) : Nat → Nat → Option Nat
  | 0, _ => none
  | m + 1, c => if p c = true then some c else g_ff p m (c + 1)
theorem ff_rng (p : Nat → Bool) : ∀ m c r, g_ff p m c = some r → c ≤ r ∧ r < c + m := by
  intro m
  induction m with
  | zero =>
    intro c r h
    cases h
  | succ m ih =>
    intro c r h
    unfold g_ff at h
    split at h
    · cases h
      omega
    · have := ih _ _ h
      omega
theorem ff_add (p : Nat → Bool) : ∀ a b c, g_ff p (a + b) c = match g_ff p a c with
    | some r => some r
    | none => g_ff p b (c + a) := by
  intro a
  induction a with
  | zero =>
    intro b c
    rw [Nat.zero_add, Nat.add_zero]
    rfl
  | succ a ih =>
    intro b c
    rw [show a + 1 + b = a + b + 1 by omega, g_ff, g_ff]
    by_cases h : p c = true
    · rw [if_pos h, if_pos h]
    · rw [if_neg h, if_neg h, ih, show c + 1 + a = c + (a + 1) by omega]
theorem ff_congr (p q : Nat → Bool) : ∀ m c, (∀ i, c ≤ i → i < c + m → p i = q i) → g_ff p m c = g_ff q m c := by
  intro m
  induction m with
  | zero => exact fun _ _ => rfl
  | succ m ih =>
    intro c h
    rw [g_ff, g_ff, h c (Nat.le_refl _) (by omega), ih (c + 1) (fun i h1 h2 => h i (by omega) (by omega))]
theorem ff_shift (p : Nat → Bool) (a : Nat) : ∀ m c, (g_ff p m (a + c)).isSome = (g_ff (fun s => p (a + s)) m c).isSome := by
  intro m
  induction m with
  | zero => exact fun _ => rfl
  | succ m ih =>
    intro c
    rw [g_ff, g_ff]
    by_cases h : p (a + c) = true
    · rw [if_pos h, if_pos h]
      rfl
    · rw [if_neg h, if_neg h, show a + c + 1 = a + (c + 1) by omega, ih]
theorem ff_nest (p : Nat → Bool) (K : Nat) (hK : 0 < K) : ∀ A c, (g_ff p (A * K) (c * K)).map (· / K) = g_ff (fun c => (g_ff p K (c * K)).isSome) A c := by
  intro A
  induction A with
  | zero =>
    intro c
    rw [Nat.zero_mul]
    rfl
  | succ A ih =>
    intro c
    rw [show (A + 1) * K = K + A * K by rw [Nat.succ_mul, Nat.add_comm], ff_add]
    rw [g_ff]
    cases h : g_ff p K (c * K) with
    | none =>
      have e : c * K + K = (c + 1) * K := (Nat.succ_mul c K).symm
      rw [if_neg (by simp), e]
      exact ih (c + 1)
    | some r =>
      have hr := ff_rng p K (c * K) r h
      have e : r / K = c := by
        rw [Nat.div_eq_iff hK]
        constructor
        · rw [Nat.mul_comm]; rw [Nat.mul_comm] at hr; omega
        · have := hr.2; rw [Nat.mul_comm] at this; rw [Nat.mul_comm]; omega
      rw [if_pos (by simp)]
      show some (r / K) = some c
      rw [e]
-- a row of strokes, told as a number
def g_dg (r : Nat) : Nat → BS → BS
  | 0, B => B
  | m + 1, B => g_dg r m (bStroke B (nI (r / 24 ^ m % 24)))
theorem dg_mod (x y : Nat) : ∀ m B, x % 24 ^ m = y % 24 ^ m → g_dg x m B = g_dg y m B := by
  intro m
  induction m with
  | zero => exact fun _ _ => rfl
  | succ m ih =>
    intro B h
    have e1 : x / 24 ^ m % 24 = y / 24 ^ m % 24 := by
      rw [← Nat.mod_mul_right_div_self, ← Nat.mod_mul_right_div_self, ← Nat.pow_succ, h]
    have e2 : x % 24 ^ m = y % 24 ^ m := by
      have hd : 24 ^ m ∣ 24 ^ (m + 1) := Nat.pow_dvd_pow 24 (Nat.le_succ m)
      rw [← Nat.mod_mod_of_dvd x hd, ← Nat.mod_mod_of_dvd y hd, h]
    rw [g_dg, g_dg, e1]
    exact ih _ e2
theorem dg_top (c m s : Nat) (hc : c < 24) (hs : s < 24 ^ m) (B : BS) : g_dg (c * 24 ^ m + s) (m + 1) B = g_dg s m (bStroke B (nI c)) := by
  have hp : 0 < 24 ^ m := Nat.pow_pos (by decide)
  have e1 : (c * 24 ^ m + s) / 24 ^ m = c := by
    rw [Nat.mul_comm, Nat.mul_add_div hp, Nat.div_eq_of_lt hs, Nat.add_zero]
  rw [g_dg, e1, Nat.mod_eq_of_lt hc]
  refine dg_mod _ _ m _ ?_
  rw [Nat.mul_comm, Nat.mul_add_mod]
def g_go (m : Nat) (B : BS) (r : Nat) : Bool := decide ((g_dg r m B).1 2 = 24)
def g_E : Nat → BS → Bool
  | 0, B => decide (B.1 2 = 24)
  | m + 1, B => (g_ff (fun c => g_E m (bStroke B (nI c))) 24 0).isSome
theorem go_top (c m s : Nat) (hc : c < 24) (hs : s < 24 ^ m) (B : BS) : g_go (m + 1) B (c * 24 ^ m + s) = g_go m (bStroke B (nI c)) s := by
  unfold g_go
  rw [dg_top c m s hc hs]
theorem go_E : ∀ m B, (g_ff (g_go m B) (24 ^ m) 0).isSome = g_E m B := by
  intro m
  induction m with
  | zero =>
    intro B
    have e : (24 : Nat) ^ 0 = 0 + 1 := rfl
    rw [e, g_ff, g_E]
    have : g_go 0 B 0 = decide (B.1 2 = 24) := rfl
    rw [this]
    by_cases h : B.1 2 = 24
    · simp [h]
    · simp [h, g_ff]
  | succ m ih =>
    intro B
    have hK : 0 < 24 ^ m := Nat.pow_pos (by decide)
    have e := ff_nest (g_go (m + 1) B) (24 ^ m) hK 24 0
    rw [Nat.zero_mul] at e
    have e2 : 24 ^ (m + 1) = 24 * 24 ^ m := by rw [Nat.pow_succ, Nat.mul_comm]
    have e3 : (g_ff (g_go (m + 1) B) (24 * 24 ^ m) 0).isSome = ((g_ff (g_go (m + 1) B) (24 * 24 ^ m) 0).map (· / 24 ^ m)).isSome := by
      cases g_ff (g_go (m + 1) B) (24 * 24 ^ m) 0 <;> rfl
    rw [e2, e3, e, g_E]
    congr 1
    refine ff_congr _ _ 24 0 (fun c _ hc => ?_)
    have e4 := ff_shift (g_go (m + 1) B) (c * 24 ^ m) (24 ^ m) 0
    have e5 : c * 24 ^ m + 0 = c * 24 ^ m := rfl
    rw [e5] at e4
    rw [e4, ← ih (bStroke B (nI c))]
    congr 1
    exact ff_congr _ _ _ 0 (fun s _ hs => go_top c m s (by omega) (by omega) B)
theorem go_first (m : Nat) (B : BS) : (g_ff (g_go (m + 1) B) (24 ^ (m + 1)) 0).map (· / 24 ^ m) = g_ff (fun c => g_E m (bStroke B (nI c))) 24 0 := by
  have hK : 0 < 24 ^ m := Nat.pow_pos (by decide)
  have e := ff_nest (g_go (m + 1) B) (24 ^ m) hK 24 0
  rw [Nat.zero_mul] at e
  have e2 : 24 ^ (m + 1) = 24 * 24 ^ m := by rw [Nat.pow_succ, Nat.mul_comm]
  rw [e2, e]
  refine ff_congr _ _ 24 0 (fun c _ hc => ?_)
  have e4 := ff_shift (g_go (m + 1) B) (c * 24 ^ m) (24 ^ m) 0
  have e5 : c * 24 ^ m + 0 = c * 24 ^ m := rfl
  rw [e5] at e4
  rw [e4, ← go_E m (bStroke B (nI c))]
  congr 1
  exact ff_congr _ _ _ 0 (fun s _ hs => go_top c m s (by omega) (by omega) B)
-- the last stroke may as well be its own
def g_own (B : BS) : BS := if B.1 2 = 24 then B else bStroke B (B.1 2)
theorem pl23 {B : BS} (hB : okB B) (h : ¬ B.1 2 = 24) : B.1 2 ≤ 23 := by
  have := hB.2.2.1
  grind
theorem own_ok {B : BS} (hB : okB B) : okB (g_own B) := by
  unfold g_own
  split
  · exact hB
  · rename_i h
    exact bStroke_ok hB hB.2.2.1.1 (pl23 hB h)
theorem own_c (σ : Sto) (k : Nat) {B : BS} (hB : okB B) : fX0_strokeOn k (B.1 2) (putB σ k B) = some ((), putB σ k (g_own B)) := by
  unfold g_own
  by_cases h : B.1 2 = 24
  · rw [if_pos h, h]
    have e : fX3_isNoCell 24 (putB σ k B) = some (1, putB σ k B) := isNoCell_out _ (by decide)
    unfold fX0_strokeOn
    rw [e, Option.bind_some]
    rfl
  · rw [if_neg h]
    exact strokeOn_eq σ k B hB.2.2.1.1 (pl23 hB h) hB.2.2.1.1 hB.2.2.1.2
theorem away_23 : ∀ n, n < 24 → ∀ m, m < 24 → qPlain (nI n) (nI m) ≤ 23 := by decide +kernel
theorem seam_23 : ∀ n, n < 24 → ∀ m, m < 6 → nI n + pCmp (nI m) (irm (nI n) 6) ≤ 23 := by decide +kernel
theorem creep_23 : ∀ n, n < 24 → ¬ (3 : Int32) ≤ nI n / 6 → nI n + 6 ≤ 23 := by decide +kernel
theorem flea_23 : ∀ n, n < 24 → irm (nI n + 7) 24 ≤ 23 := by decide +kernel
theorem no24 {x : Int32} (h : x ≤ 23) : ¬ x = 24 := by
  intro e
  rw [e] at h
  exact absurd h (by decide)
theorem st_2 (B : BS) (c : Int32) : (bStroke B c).1 2 = if B.1 2 = 24 then 24 else if B.1 2 = c then pStruck (bHit B c).1 (bHit B c).2 else pBeside (bHit B c).1 (bHit B c).2 := by
  unfold bStroke bTick bMove
  rw [bHit_2]
  by_cases h : B.1 2 = 24
  · rw [if_pos h, if_pos h]
    simp [upd, bHit_2, h]
  · rw [if_neg h, if_neg h]
    simp [upd]
theorem hit_1 (B : BS) (c : Int32) : (bHit B c).1 1 = B.1 1 := by simp [bHit, upd]
theorem hit_8 (B : BS) (c : Int32) : (bHit B c).1 8 = B.1 8 := by simp [bHit, upd]
theorem beside_no {B : BS} (hB : okB B) (h : ¬ B.1 2 = 24) {c : Int32} (c0 : 0 ≤ c) (c1 : c ≤ 23) (hk : B.1 1 = 3 ∨ B.1 1 = 4) : pBeside (bHit B c).1 (bHit B c).2 ≤ 23 := by
  have hp := pl23 hB h
  have p0 := hB.2.2.1.1
  have s0 := hB.2.2.2.2.2.2.2.1
  obtain ⟨n, hn, en⟩ := i32_nat 23 23 p0 hp (by decide)
  obtain ⟨m, hm, em⟩ := i32_nat 23 23 c0 c1 (by decide)
  obtain ⟨q, hq, eq⟩ := i32_nat 5 5 s0.1 s0.2 (by decide)
  have ho := pOver_rng p0 hp
  have ha : pAway (bHit B c).1 ≤ 23 := by
    rw [away_eq (by rw [bHit_2]; exact p0) (by rw [bHit_2]; exact hp) (by rw [bHit_3]; exact c0) (by rw [bHit_3]; exact c1), bHit_2, bHit_3, en, em]
    exact away_23 n (by omega) m (by omega)
  have h103 : ∀ x : Int32, x ≤ 23 → pB103 (bHit B c).1 (bHit B c).2 x ≤ 23 := by
    intro x hx
    unfold pB103
    rw [bHit_2]
    split
    · split
      · split
        · exact ho.2
        · exact hp
      · exact hx
    · exact hx
  unfold pBeside
  rw [hit_1, hit_8, bHit_2]
  rcases hk with hk | hk
  · rw [hk, if_neg (by decide), if_neg (by decide), if_neg (by decide), if_neg (by decide)]
    split
    · split
      · exact h103 _ ha
      · rename_i hc
        refine h103 _ ?_
        rw [en] at hc ⊢
        exact creep_23 n (by omega) hc
    · exact h103 _ ha
  · rw [hk, if_neg (by decide), if_neg (by decide), if_pos rfl, en, eq]
    exact seam_23 n (by omega) q (by omega)
theorem own_any {B : BS} (hB : okB B) : decide ((g_own B).1 2 = 24) = g_E 1 B := by
  rw [g_E]
  by_cases h : B.1 2 = 24
  · have e1 : (g_own B).1 2 = 24 := by
      unfold g_own
      rw [if_pos h, h]
    have e2 : g_E 0 (bStroke B (nI 0)) = true := by
      rw [g_E, st_2, if_pos h]
      rfl
    rw [g_ff, if_pos e2, e1]
    rfl
  · have hp := pl23 hB h
    obtain ⟨n, hn, en⟩ := i32_nat 23 23 hB.2.2.1.1 hp (by decide)
    have eo : (g_own B).1 2 = pStruck (bHit B (B.1 2)).1 (bHit B (B.1 2)).2 := by
      unfold g_own
      rw [if_neg h, st_2, if_neg h, if_pos rfl]
    cases hf : g_ff (fun c => g_E 0 (bStroke B (nI c))) 24 0 with
    | some r =>
      -- some stroke lets it go: then its own does
      show decide ((g_own B).1 2 = 24) = true
      rw [decide_eq_true_iff, eo]
      have hr := ff_rng _ _ _ _ hf
      have hy : g_E 0 (bStroke B (nI r)) = true := by
        have : ∀ m c, g_ff (fun c => g_E 0 (bStroke B (nI c))) m c = some r → g_E 0 (bStroke B (nI r)) = true := by
          intro m
          induction m with
          | zero =>
            intro c hc
            cases hc
          | succ m ih =>
            intro c hc
            unfold g_ff at hc
            split at hc
            · rename_i hh
              cases hc
              exact hh
            · exact ih _ hc
        exact this _ _ hf
      rw [g_E, decide_eq_true_iff, st_2, if_neg h] at hy
      by_cases h3 : B.1 1 = 3 ∨ B.1 1 = 4
      · by_cases hc : B.1 2 = nI r
        · rw [if_pos hc] at hy
          rw [hc]
          exact hy
        · rw [if_neg hc] at hy
          exact absurd hy (no24 (beside_no hB h (nI_pos' (by omega)) (nI_le (b := 23) (by omega) (by decide)) h3))
      · unfold pStruck
        rw [hit_1, if_neg (fun e => h3 (Or.inl e)), if_neg (fun e => h3 (Or.inr e))]
    | none =>
      show decide ((g_own B).1 2 = 24) = false
      rw [decide_eq_false_iff_not]
      intro hy
      rw [eo] at hy
      have hno : ∀ m c, g_ff (fun c => g_E 0 (bStroke B (nI c))) m c = none → ∀ i, c ≤ i → i < c + m → g_E 0 (bStroke B (nI i)) = false := by
        intro m
        induction m with
        | zero =>
          intro c _ i h1 h2
          omega
        | succ m ih =>
          intro c hc i h1 h2
          unfold g_ff at hc
          split at hc
          · cases hc
          · rename_i hh
            by_cases e : i = c
            · subst e
              simpa using hh
            · exact ih (c + 1) hc i (by omega) (by omega)
      have := hno 24 0 hf n (by omega) (by omega)
      rw [g_E, decide_eq_false_iff_not, st_2, if_neg h, if_pos en, ← en] at this
      exact this hy
theorem putB_comm (σ : Sto) (X Y : BS) : putB (putB σ 5 X) 7 Y = putB (putB σ 7 Y) 5 X := by
  funext a
  simp only [putB, setS]
  by_cases h5 : a = 5
  · subst h5; simp
  · by_cases h6 : a = 6
    · subst h6; simp
    · by_cases h7 : a = 7
      · subst h7; simp
      · by_cases h8 : a = 8
        · subst h8; simp
        · simp [h5, h6, h7, h8]
theorem nw_7 (σ : Sto) (Y : BS) : g_nw (putB σ 7 Y) = g_nw σ := by
  unfold g_nw
  rw [putB_ne _ _ _ (by decide) (by decide), putB_ne _ _ _ (by decide) (by decide)]
theorem cb_l (σ : Sto) {B : BS} (hB : okB B) : ∀ m n c Y, m < n → c + m = 24 → okB Y → ∃ Z, okB Z ∧ fX3_canBeGone_l61 n (nI c) (putB (putB σ 7 Y) 5 B) = some (if (g_ff (fun d => g_E 1 (bStroke B (nI d))) m c).isSome = true then 1 else 0, putB (putB σ 7 Z) 5 B) := by
  intro m
  induction m with
  | zero =>
    intro n c Y hn hc hY
    obtain ⟨n, rfl⟩ : ∃ q, n = q + 1 := ⟨n - 1, by omega⟩
    have : c = 24 := by omega
    subst this
    exact ⟨Y, hY, by rw [fX3_canBeGone_l61, if_pos (show (24 : Int32) ≤ nI 24 by decide)]; rfl⟩
  | succ m ih =>
    intro n c Y hn hc hY
    obtain ⟨n, rfl⟩ : ∃ q, n = q + 1 := ⟨n - 1, by omega⟩
    have c0 : 0 ≤ nI c := nI_pos' (by omega)
    have c1 : nI c ≤ 23 := nI_le (b := 23) (by omega) (by decide)
    have hk := bStroke_ok hB c0 c1
    have ho := own_ok hk
    have e7 := strokeOn_eq (putB σ 5 B) 7 B c0 c1 hB.2.2.1.1 hB.2.2.1.2
    have eo := own_c (putB σ 5 B) 7 hk
    have ea := own_any hk
    rw [fX3_canBeGone_l61, if_neg (show ¬ (24 : Int32) ≤ nI (c) from nI_ge (b := 24) (by omega) (by decide)), ← putB_comm, take75 hB hY, Option.bind_some, e7, Option.bind_some]
    simp only [putB_k]
    rw [eo, Option.bind_some]
    simp only [putB_k]
    by_cases hc2 : (g_own (bStroke B (nI c))).1 2 = 24
    · have hE : g_E 1 (bStroke B (nI c)) = true := by
        rw [← ea]
        exact decide_eq_true hc2
      refine ⟨g_own (bStroke B (nI c)), ho, ?_⟩
      rw [if_pos hc2, putB_comm, g_ff, if_pos hE]
      rfl
    · have hE : ¬ g_E 1 (bStroke B (nI c)) = true := by
        rw [← ea]
        simpa using hc2
      obtain ⟨Z, hZ, hi⟩ := ih n (c + 1) (g_own (bStroke B (nI c))) (by omega) (by omega) ho
      refine ⟨Z, hZ, ?_⟩
      rw [if_neg hc2, putB_comm, nI_1, hi, g_ff, if_neg hE]
theorem cb_c (σ : Sto) {B Y : BS} (hB : okB B) (hY : okB Y) (N : Nat) (hN : N ≤ 2) : ∃ X Z, okB X ∧ okB Z ∧ fX3_canBeGone (nI N) (putB (putB σ 7 Y) 5 B) = some (if g_E N B = true then 1 else 0, putB (putB σ 7 Z) 5 X) := by
  have : N = 0 ∨ N = 1 ∨ N = 2 := by omega
  have chk : ∀ (b : Bool) (τ : Sto), chkZ (if b = true then (1 : Int32) else 0, τ) = some (if b = true then (1 : Int32) else 0, τ) := by
    intro b τ
    cases b <;> rfl
  rcases this with rfl | rfl | rfl
  · refine ⟨B, Y, hB, hY, ?_⟩
    unfold fX3_canBeGone fX3_canBeGone_e
    rw [if_neg (show ¬ (0 : Int32) < nI 0 by decide), putB_k]
    have e : (if B.1 2 = 24 then some ((1 : Int32), putB (putB σ 7 Y) 5 B) else some (0, putB (putB σ 7 Y) 5 B)) = some (if g_E 0 B = true then 1 else 0, putB (putB σ 7 Y) 5 B) := by
      rw [g_E]
      by_cases h : B.1 2 = 24
      · simp [h]
      · simp [h]
    rw [e, Option.bind_some]
    exact chk _ _
  · refine ⟨g_own B, Y, own_ok hB, hY, ?_⟩
    unfold fX3_canBeGone fX3_canBeGone_e
    rw [if_pos (show (0 : Int32) < nI 1 by decide), if_pos (show nI 1 = 1 from rfl), putB_k, own_c _ _ hB, Option.bind_some, ← own_any hB]
    simp only [putB_k]
    by_cases h : (g_own B).1 2 = 24
    · simp only [h, decide_true, if_true]
      rfl
    · rw [if_neg h, decide_eq_false h]
      rfl
  · obtain ⟨Z, hZ, e⟩ := cb_l σ hB 24 300 0 Y (by decide) (by decide) hY
    refine ⟨B, Z, hB, hZ, ?_⟩
    unfold fX3_canBeGone fX3_canBeGone_e
    rw [if_pos (show (0 : Int32) < nI 2 by decide), if_neg (show ¬ nI 2 = 1 by decide)]
    rw [nI_0] at e
    rw [e, Option.bind_some]
    exact chk _ _
theorem fi_c (σ : Sto) (hN : okB (g_nw σ)) (N : Nat) (hN2 : N ≤ 2) : ∀ m n c X Y, m < n → c + m = 24 → okB X → okB Y → ∃ X' Y', okB X' ∧ okB Y' ∧ fX3_firstOf_l2 n (nI (N + 1)) (nI c) (putB (putB σ 7 Y) 5 X) = some (g_opt (-9) (g_ff (fun c => g_E N (bStroke (g_nw σ) (nI c))) m c), putB (putB σ 7 Y') 5 X') := by
  intro m
  induction m with
  | zero =>
    intro n c X Y hn hc hX hY
    obtain ⟨n, rfl⟩ : ∃ q, n = q + 1 := ⟨n - 1, by omega⟩
    have : c = 24 := by omega
    subst this
    exact ⟨X, Y, hX, hY, by rw [fX3_firstOf_l2, if_pos (show (24 : Int32) ≤ nI 24 by decide)]; rfl⟩
  | succ m ih =>
    intro n c X Y hn hc hX hY
    obtain ⟨n, rfl⟩ : ∃ q, n = q + 1 := ⟨n - 1, by omega⟩
    have c0 : 0 ≤ nI c := nI_pos' (by omega)
    have c1 : nI c ≤ 23 := nI_le (b := 23) (by omega) (by decide)
    have hk := bStroke_ok hN c0 c1
    have ht := take51 (σ := putB σ 7 Y) (X := X) (by rw [nw_7]; exact hN) hX
    have es := strokeOn_eq (putB σ 7 Y) 5 (g_nw σ) c0 c1 hN.2.2.1.1 hN.2.2.1.2
    obtain ⟨X1, Y1, hX1, hY1, ec⟩ := cb_c σ hk hY N hN2
    obtain ⟨X2, Y2, hX2, hY2, hi⟩ := ih n (c + 1) X1 Y1 (by omega) (by omega) hX1 hY1
    rw [nw_7] at ht
    rw [fX3_firstOf_l2, if_neg (show ¬ (24 : Int32) ≤ nI (c) from nI_ge (b := 24) (by omega) (by decide)), ht, Option.bind_some, es, Option.bind_some, nI_pred, ec, Option.bind_some]
    by_cases hE : g_E N (bStroke (g_nw σ) (nI c)) = true
    · refine ⟨X1, Y1, hX1, hY1, ?_⟩
      rw [if_pos hE, if_neg (show ¬ (1 : Int32) = 0 by decide), g_ff, if_pos hE]
      rfl
    · refine ⟨X2, Y2, hX2, hY2, ?_⟩
      rw [if_neg hE, if_pos rfl, g_ff, if_neg hE, nI_1]
      exact hi
def g_f1 (B : BS) (N : Nat) : Option Nat := g_ff (fun c => g_E N (bStroke B (nI c))) 24 0
def g_fw (what : Int32) (B : BS) : Nat → Nat → Int32
  | 0, _ => -9
  | m + 1, N => match g_f1 B N with
    | some c => if what = 0 then nI (N + 1) else nI c
    | none => g_fw what B m (N + 1)
theorem fw_c (σ : Sto) (hN : okB (g_nw σ)) (what : Int32) : ∀ m n N X Y, m < n → N + m = 3 → okB X → okB Y → ∃ X' Y', okB X' ∧ okB Y' ∧ fX3_fewest_l40 n what (nI (N + 1)) (putB (putB σ 7 Y) 5 X) = some (g_fw what (g_nw σ) m N, putB (putB σ 7 Y') 5 X') := by
  intro m
  induction m with
  | zero =>
    intro n N X Y hn hc hX hY
    obtain ⟨n, rfl⟩ : ∃ q, n = q + 1 := ⟨n - 1, by omega⟩
    have : N = 3 := by omega
    subst this
    exact ⟨X, Y, hX, hY, by rw [fX3_fewest_l40, if_pos (show (3 : Int32) < nI (3 + 1) by decide)]; rfl⟩
  | succ m ih =>
    intro n N X Y hn hc hX hY
    obtain ⟨n, rfl⟩ : ∃ q, n = q + 1 := ⟨n - 1, by omega⟩
    obtain ⟨X1, Y1, hX1, hY1, e⟩ := fi_c σ hN N (by omega) 24 300 0 X Y (by decide) (by decide) hX hY
    obtain ⟨X2, Y2, hX2, hY2, hi⟩ := ih n (N + 1) X1 Y1 (by omega) (by omega) hX1 hY1
    have n3 : ¬ (3 : Int32) < nI (N + 1) := nI_nlt (a := 3) (by omega) (by decide)
    have e' : fX3_firstOf (nI (N + 1)) (putB (putB σ 7 Y) 5 X) = some (g_opt (-9) (g_f1 (g_nw σ) N), putB (putB σ 7 Y1) 5 X1) := e
    rw [fX3_fewest_l40, if_neg n3, e', Option.bind_some]
    cases hf : g_f1 (g_nw σ) N with
    | none =>
      refine ⟨X2, Y2, hX2, hY2, ?_⟩
      rw [if_pos (opt_none (-9)), nI_1, hi, g_fw, hf]
    | some c =>
      have hr := ff_rng _ _ _ _ hf
      have hne : ¬ nI c = -9 := by
        have := nI_pos' (n := c) (by omega)
        grind
      refine ⟨X1, Y1, hX1, hY1, ?_⟩
      rw [opt_some, if_neg hne, g_fw, hf]
      dsimp only
      split <;> rfl
-- the reference's own search
def g_hh (m : Nat) : Nat := 24 ^ m / 24
theorem hh_succ (m : Nat) : g_hh (m + 1) = 24 ^ m := by
  unfold g_hh
  rw [Nat.pow_succ, Nat.mul_div_cancel _ (by decide)]
theorem p24_le {m : Nat} (h : m ≤ 3) : 24 ^ m ≤ 13824 := by
  have h1 := Nat.pow_le_pow_right (show 0 < 24 by decide) h
  have e8 : 24 ^ 3 = 13824 := by decide
  omega
theorem dr_ok (r : Nat) : ∀ m B, okB B → okB (g_dg r m B) := by
  intro m
  induction m with
  | zero => exact fun B h => h
  | succ m ih =>
    intro B hB
    rw [g_dg]
    exact ih _ (bStroke_ok hB (nI_pos' (by omega)) (nI_le (b := 23) (by omega) (by decide)))
theorem dw_l (τ : Sto) (r N : Nat) (hr : r < 2 ^ 31) (hN : N ≤ 3) : ∀ m n k B, m < n → k + m = N → okB B → fX4_doesGo_l31 n (nI r) (nI N) (nI (g_hh m)) (nI k) (putM τ B) = (fX4_passesAll 1 0 (putM τ (g_dg r m B))).bind fun q => some (if (g_dg r m B).1 2 = 24 then 1 else 0, q.2) := by
  intro m
  induction m with
  | zero =>
    intro n k B hn hk hB
    obtain ⟨n, rfl⟩ : ∃ q, n = q + 1 := ⟨n - 1, by omega⟩
    rw [fX4_doesGo_l31, if_pos (nI_le (by omega) (by omega)), putM_4]
    unfold fX4_doesGo_b72
    rw [g_dg]
    by_cases h : B.1 2 = 24
    · rw [if_pos h, if_pos h]
    · rw [if_neg h, if_neg h]
  | succ m ih =>
    intro n k B hn hk hB
    obtain ⟨n, rfl⟩ : ∃ q, n = q + 1 := ⟨n - 1, by omega⟩
    have hp : 0 < 24 ^ m := Nat.pow_pos (by decide)
    have h13 := p24_le (m := m) (by omega)
    have c0 : 0 ≤ nI (r / 24 ^ m % 24) := nI_pos' (by omega)
    have c1 : nI (r / 24 ^ m % 24) ≤ 23 := nI_le (b := 23) (by omega) (by decide)
    have hd : r / 24 ^ m ≤ r := Nat.div_le_self _ _
    have e1 : irm (nI r / nI (24 ^ m)) 24 = nI (r / 24 ^ m % 24) := by
      rw [pk_div hr hp (by omega)]
      exact irm_nI (d := 24) (by omega) (by decide) (by decide)
    have e2 : nI (24 ^ m) / 24 = nI (g_hh m) := pk_div (d := 24) (by omega) (by decide) (by decide)
    rw [fX4_doesGo_l31, if_neg (nI_ge (by omega) (by omega)), hh_succ, if_pos (nI_ne0 hp (by omega)), e1, strokes_eq τ hB c0 c1, Option.bind_some, e2, nI_1, g_dg]
    exact ih n (k + 1) _ (by omega) (by omega) (bStroke_ok hB c0 c1)
theorem dw_h (τ : Sto) (r N : Nat) (hr : r < 2 ^ 31) (hN : N ≤ 3) {B : BS} (hB : okB B) : ∀ m n k, m < n → k + 1 + m = N → fX4_doesGo_l11 n (nI r) (nI N) (nI (24 ^ k)) (nI (k + 1)) (putM τ B) = (fX4_passesAll 1 0 (putM τ (g_dg r N B))).bind fun q => some (if (g_dg r N B).1 2 = 24 then 1 else 0, q.2) := by
  intro m
  induction m with
  | zero =>
    intro n k hn hk
    obtain ⟨n, rfl⟩ : ∃ q, n = q + 1 := ⟨n - 1, by omega⟩
    have : N = k + 1 := by omega
    subst this
    have e := dw_l τ r (k + 1) hr hN (k + 1) 300 0 B (by omega) (by omega) hB
    rw [hh_succ, nI_0] at e
    rw [fX4_doesGo_l11, if_pos (nI_le (by omega) (by omega))]
    exact e
  | succ m ih =>
    intro n k hn hk
    obtain ⟨n, rfl⟩ : ∃ q, n = q + 1 := ⟨n - 1, by omega⟩
    have e2 : nI (24 ^ k) * 24 = nI (24 ^ (k + 1)) := by
      have z : (24 : Int32) = nI 24 := rfl
      rw [z, pk_mul, Nat.pow_succ]
    rw [fX4_doesGo_l11, if_neg (nI_ge (by omega) (by omega)), e2, nI_1]
    exact ih n (k + 1) (by omega) (by omega)
theorem dw_m (τ : Sto) (r N : Nat) (hr : r < 2 ^ 31) (h1 : 1 ≤ N) (hN : N ≤ 3) {B : BS} (hB : okB B) : ∃ υ, g_Sk τ υ ∧ fX4_doesGo (nI r) (nI N) (putM τ B) = some (if g_go N B r = true then 1 else 0, putM υ B) := by
  obtain ⟨υ, e, hS⟩ := mind_k (τ := τ) (τ' := g_sv 1 B τ) hB (dr_ok r N B hB) (fun _ => rfl)
  refine ⟨υ, hS, ?_⟩
  have k := dw_h (g_sv 1 B τ) r N hr hN hB (N - 1) 300 0 (by omega) (by omega)
  have z1 : nI (24 ^ 0) = (1 : Int32) := rfl
  rw [z1, e, Option.bind_some] at k
  unfold fX4_doesGo fX4_doesGo_e
  rw [mind_save, Option.bind_some]
  dsimp only
  rw [k, Option.bind_some]
  unfold g_go
  by_cases h : (g_dg r N B).1 2 = 24
  · rw [if_pos h, decide_eq_true h]
    rfl
  · rw [if_neg h, decide_eq_false h]
    rfl
theorem fm_l {B : BS} (hB : okB B) (k40 : Int32 → Int32 → Int32 → Sto → Option (Int32 × Sto)) (what : Int32) (N : Nat) (hN : N ≤ 2) : ∀ m n r τ, m < n → r + m = 24 ^ (N + 1) → ∃ υ, g_Sk τ υ ∧ fX4_fewest_l56 k40 n what (nI (24 ^ (N + 1))) (nI (N + 1)) (nI (24 ^ N)) (nI r) (putM τ B) = match g_ff (g_go (N + 1) B) m r with
    | some q => some (if what = 0 then nI (N + 1) else nI (q / 24 ^ N), putM υ B)
    | none => k40 what (nI (24 ^ (N + 1))) (nI (N + 1 + 1)) (putM υ B) := by
  have h13 := p24_le (m := N + 1) (by omega)
  have hp : 0 < 24 ^ N := Nat.pow_pos (by decide)
  have h13' := p24_le (m := N) (by omega)
  intro m
  induction m with
  | zero =>
    intro n r τ hn hr
    obtain ⟨n, rfl⟩ : ∃ q, n = q + 1 := ⟨n - 1, by omega⟩
    refine ⟨τ, Sk_refl τ, ?_⟩
    rw [fX4_fewest_l56, if_pos (nI_le (by omega) (by omega)), nI_1]
    rfl
  | succ m ih =>
    intro n r τ hn hr
    obtain ⟨n, rfl⟩ : ∃ q, n = q + 1 := ⟨n - 1, by omega⟩
    obtain ⟨υ, hS, e⟩ := dw_m τ r (N + 1) (by omega) (by omega) (by omega) hB
    obtain ⟨φ, hS2, hi⟩ := ih n (r + 1) υ (by omega) (by omega)
    rw [fX4_fewest_l56, if_neg (nI_ge (by omega) (by omega)), e, Option.bind_some, g_ff]
    by_cases h : g_go (N + 1) B r = true
    · refine ⟨υ, hS, ?_⟩
      rw [if_pos h, if_pos h, if_neg (show ¬ (1 : Int32) = 0 by decide)]
      dsimp only
      by_cases hw : what = 0
      · rw [if_pos hw, if_pos hw]
      · rw [if_neg hw, if_neg hw, if_pos (nI_ne0 hp (by omega)), pk_div (by omega) hp (by omega)]
    · refine ⟨φ, Sk_trans hS hS2, ?_⟩
      rw [if_neg h, if_neg h, if_pos rfl, nI_1]
      exact hi
theorem fm_o {B : BS} (hB : okB B) (what : Int32) : ∀ m n N τ, m < n → N + m = 3 → ∃ υ, g_Sk τ υ ∧ fX4_fewest_l40 n what (nI (24 ^ N)) (nI (N + 1)) (putM τ B) = some (g_fw what B m N, putM υ B) := by
  intro m
  induction m with
  | zero =>
    intro n N τ hn hc
    obtain ⟨n, rfl⟩ : ∃ q, n = q + 1 := ⟨n - 1, by omega⟩
    have : N = 3 := by omega
    subst this
    exact ⟨τ, Sk_refl τ, by rw [fX4_fewest_l40, if_pos (show (4 : Int32) ≤ nI (3 + 1) by decide)]; rfl⟩
  | succ m ih =>
    intro n N τ hn hc
    obtain ⟨n, rfl⟩ : ∃ q, n = q + 1 := ⟨n - 1, by omega⟩
    have h13 := p24_le (m := N + 1) (by omega)
    have n4 : ¬ (4 : Int32) ≤ nI (N + 1) := nI_ge (b := 4) (by omega) (by decide)
    have e2 : nI (24 ^ N) * 24 = nI (24 ^ (N + 1)) := by
      have z : (24 : Int32) = nI 24 := rfl
      rw [z, pk_mul, Nat.pow_succ]
    obtain ⟨υ, hS, e⟩ := fm_l hB (fun a0 a1 a2 s => fX4_fewest_l40 n a0 a1 a2 s) what N (by omega) (24 ^ (N + 1)) 14000 0 τ (by omega) (by omega)
    obtain ⟨φ, hS2, hi⟩ := ih n (N + 1) υ (by omega) (by omega)
    have ef := go_first N B
    rw [nI_0] at e
    rw [fX4_fewest_l40, if_neg n4, e2, e]
    cases hf : g_ff (g_go (N + 1) B) (24 ^ (N + 1)) 0 with
    | none =>
      rw [hf] at ef
      have ef' : g_f1 B N = none := ef.symm
      refine ⟨φ, Sk_trans hS hS2, ?_⟩
      rw [g_fw, ef']
      exact hi
    | some q =>
      rw [hf] at ef
      have ef' : g_f1 B N = some (q / 24 ^ N) := ef.symm
      refine ⟨υ, hS, ?_⟩
      rw [g_fw, ef']
def g_fa (what : Int32) (B : BS) : Int32 := if B.1 2 = 24 then (if what = 0 then 0 else -9) else g_fw what B 3 0
theorem ok_fewest (a : Int32) : g_Ok (fX3_fewest a) (fX4_fewest a) := by
  by_cases h : 0 ≤ a ∧ a < 2
  · have h5 : a ≤ 1 := n_lt 2 1 (by decide) (by decide) h (by decide)
    refine ok_query (fun σ => g_fa a (g_nw σ)) (fun σ hI => ?_) (m_query (v := fun B => g_fa a B) ?_) ?_
    · by_cases hg : σ 1 2 = 24
      · refine ⟨σ, ?_, Sc_refl σ⟩
        unfold fX3_fewest g_fa
        have hg' : (g_nw σ).1 2 = 24 := hg
        rw [isNot_in _ h.1 h.2, Option.bind_some, if_pos rfl, if_pos hg, if_pos hg']
        split <;> rfl
      · obtain ⟨X, Y, hX, hY, e⟩ := fw_c σ hI.1 a 3 300 0 (σ 5, σ 6) (σ 7, σ 8) (by decide) (by decide) hI.2.2.2.1.1 hI.2.2.2.1.2
        refine ⟨putB (putB σ 7 Y) 5 X, ?_, Sc_trans (Sc_B7 hY) (Sc_B5 hX)⟩
        have hg' : ¬ (g_nw σ).1 2 = 24 := hg
        have z1 : nI (0 + 1) = (1 : Int32) := rfl
        have es : putB σ 7 (σ 7, σ 8) = σ := putB_self σ 7
        rw [es, putB_self, z1] at e
        unfold fX3_fewest g_fa
        rw [isNot_in _ h.1 h.2, Option.bind_some, if_pos rfl, if_neg hg, if_neg hg']
        exact e
    · intro τ B hB
      by_cases hg : B.1 2 = 24
      · refine ⟨τ, ?_, Sm_refl τ⟩
        unfold fX4_fewest g_fa
        rw [isIn_in _ h.1 h5, Option.bind_some, if_neg (show ¬ (1 : Int32) = 0 by decide)]
        dsimp only
        rw [if_pos (show putM τ B 17 4 = 24 from (putM_4 τ B).trans hg), if_pos hg]
        split <;> rfl
      · obtain ⟨υ, hS, e⟩ := fm_o hB a 3 300 0 τ (by decide) (by decide)
        refine ⟨υ, ?_, Sk_Sm hS⟩
        have z0 : nI (24 ^ 0) = (1 : Int32) := rfl
        rw [z0] at e
        unfold fX4_fewest g_fa
        rw [isIn_in _ h.1 h5, Option.bind_some, if_neg (show ¬ (1 : Int32) = 0 by decide)]
        dsimp only
        rw [if_neg (show ¬ putM τ B 17 4 = 24 from fun e => hg ((putM_4 τ B).symm.trans e)), if_neg hg]
        exact e
    · intro σ τ hI hS
      simp only [Sc_nw hS]
  · intro σ hI
    have h2 : ¬ (0 ≤ a ∧ a ≤ 1) := by grind
    exact ⟨-2, g_rf 2 σ, g_rm 2 (g_rf 2 σ), by simp only [fX3_fewest, isNot_out _ h, Option.bind_some, eq_self, if_true, if_false, i10, i01, m10, m20, m40, m60, m90, refuse_2], by simp only [fX4_fewest, isIn_out _ h2, Option.bind_some, eq_self, if_true, if_false, i10, i01, m10, m20, m40, m60, m90, no_2], In_rf 2 hI⟩

