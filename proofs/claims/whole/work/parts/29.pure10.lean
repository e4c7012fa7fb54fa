/-! the pure part, 10: fractions in least terms, MEAN, HARDEST -/
theorem cmp0 {b : Nat} (hb : b < 2 ^ 63) : (lg_cmp (lN b) 0 = 0) ↔ b = 0 := by
  have z : (0 : Int64) = lN 0 := rfl
  rw [z]
  unfold lg_cmp
  by_cases h : b = 0
  · subst h
    simp
  · have h1 : lN 0 < lN b := (pk_lLT (by decide) hb).mpr (by omega)
    rw [if_pos h1]
    simp [h]
theorem lN_ne0 {b : Nat} (hb : b < 2 ^ 63) (h : b ≠ 0) : ¬ lN b = 0 := by
  intro e
  exact h ((pk_lEQ hb (by decide)).mp (e.trans (show (0 : Int64) = lN 0 from rfl)))
theorem gcd_step (a b : Nat) : Nat.gcd a b = Nat.gcd b (a % b) := by
  rw [Nat.gcd_comm a b, Nat.gcd_rec b a, Nat.gcd_comm]
theorem lrm_N {a b : Nat} (ha : a < 2 ^ 63) (h0 : 0 < b) (hb : b < 2 ^ 63) : lrm (lN a) (lN b) = lN (a % b) := pk_lRem ha h0 hb
theorem half_step {a b : Nat} (h0 : 0 < b) (h1 : 0 < a % b) : 2 * (b % (a % b)) < b := by
  have h2 := Nat.mod_lt b h1
  have h3 := Nat.mod_lt a h0
  have h4 := Nat.div_add_mod b (a % b)
  have h5 : 1 ≤ b / (a % b) := (Nat.one_le_div_iff h1).mpr (by omega)
  have h6 : a % b * 1 ≤ a % b * (b / (a % b)) := Nat.mul_le_mul_left _ h5
  omega
theorem cd_eq (σ : Sto) : ∀ k a b n i, b < 2 ^ k → a < 2 ^ 63 → b < 2 ^ 63 → 2 * k < n → i + 2 * k < 200 → fX3_commonDivisor_l9 n (lN a) (lN b) (nI i) σ = some (lN (Nat.gcd a b), σ) := by
  intro k
  induction k with
  | zero =>
    intro a b n i hb ha hb2 hn hi
    have : b = 0 := by
      have : (2 : Nat) ^ 0 = 1 := rfl
      omega
    subst this
    obtain ⟨n, rfl⟩ : ∃ q, n = q + 1 := ⟨n - 1, by omega⟩
    rw [fX3_commonDivisor_l9, if_neg (show ¬ (200 : Int32) ≤ nI (i) from nI_ge (b := 200) (by omega) (by decide)), if_pos ((cmp0 hb2).mpr rfl), Nat.gcd_zero_right]
  | succ k ih =>
    intro a b n i hb ha hb2 hn hi
    obtain ⟨n, rfl⟩ : ∃ q, n = q + 2 := ⟨n - 2, by omega⟩
    rw [fX3_commonDivisor_l9, if_neg (show ¬ (200 : Int32) ≤ nI (i) from nI_ge (b := 200) (by omega) (by decide))]
    by_cases h0 : b = 0
    · subst h0
      rw [if_pos ((cmp0 hb2).mpr rfl), Nat.gcd_zero_right]
    · rw [if_neg (fun h => h0 ((cmp0 hb2).mp h)), if_pos (lN_ne0 hb2 h0), lrm_N ha (by omega) hb2, nI_1]
      have hr := Nat.mod_lt a (show 0 < b by omega)
      rw [gcd_step a b, fX3_commonDivisor_l9, if_neg (show ¬ (200 : Int32) ≤ nI (i + 1) from nI_ge (b := 200) (by omega) (by decide))]
      by_cases h1 : a % b = 0
      · rw [h1, if_pos ((cmp0 (by decide)).mpr rfl), Nat.gcd_zero_right]
      · have hs := half_step (a := a) (b := b) (by omega) (by omega)
        have hp : (2 : Nat) ^ (k + 1) = 2 * 2 ^ k := by rw [Nat.pow_succ, Nat.mul_comm]
        rw [if_neg (fun h => h1 ((cmp0 (by omega)).mp h)), if_pos (lN_ne0 (by omega) h1), lrm_N hb2 (by omega) (by omega), nI_1, gcd_step b (a % b)]
        exact ih (a % b) (b % (a % b)) n (i + 1 + 1) (by omega) (by omega) (by omega) (by omega) (by omega)
theorem dv_eq (σ : Sto) : ∀ k a b n, b < 2 ^ k → a < 2 ^ 63 → b < 2 ^ 63 → 2 * k < n → fX4_divisor_l6 n (lN a) (lN b) σ = some (lN (Nat.gcd a b), σ) := by
  intro k
  induction k with
  | zero =>
    intro a b n hb ha hb2 hn
    have : b = 0 := by
      have : (2 : Nat) ^ 0 = 1 := rfl
      omega
    subst this
    obtain ⟨n, rfl⟩ : ∃ q, n = q + 1 := ⟨n - 1, by omega⟩
    rw [fX4_divisor_l6, if_pos ((cmp0 hb2).mpr rfl), Nat.gcd_zero_right]
  | succ k ih =>
    intro a b n hb ha hb2 hn
    obtain ⟨n, rfl⟩ : ∃ q, n = q + 2 := ⟨n - 2, by omega⟩
    rw [fX4_divisor_l6]
    by_cases h0 : b = 0
    · subst h0
      rw [if_pos ((cmp0 hb2).mpr rfl), Nat.gcd_zero_right]
    · rw [if_neg (fun h => h0 ((cmp0 hb2).mp h)), if_pos (lN_ne0 hb2 h0), lrm_N ha (by omega) hb2]
      have hr := Nat.mod_lt a (show 0 < b by omega)
      rw [gcd_step a b, fX4_divisor_l6]
      by_cases h1 : a % b = 0
      · rw [h1, if_pos ((cmp0 (by decide)).mpr rfl), Nat.gcd_zero_right]
      · have hs := half_step (a := a) (b := b) (by omega) (by omega)
        have hp : (2 : Nat) ^ (k + 1) = 2 * 2 ^ k := by rw [Nat.pow_succ, Nat.mul_comm]
        rw [if_neg (fun h => h1 ((cmp0 (by omega)).mp h)), if_pos (lN_ne0 (by omega) h1), lrm_N hb2 (by omega) (by omega), gcd_step b (a % b)]
        exact ih (a % b) (b % (a % b)) n (by omega) (by omega) (by omega) (by omega)
def g_fr (a b : Nat) (part : Int32) : Int64 := (if part = 0 then lN a else lN b) / lN (Nat.gcd a b)
theorem gcd_lt {a b : Nat} (hb : 0 < b) (h : b < 2 ^ 63) : Nat.gcd a b < 2 ^ 63 ∧ Nat.gcd a b ≠ 0 := by
  have h1 := Nat.gcd_le_right a hb
  have h2 := Nat.gcd_pos_of_pos_right a hb
  omega
theorem frac_c (σ : Sto) {a b : Nat} (ha : a < 2 ^ 63) (hb : b < 2 ^ 63) (h0 : 0 < b) (part : Int32) : fX3_partOfFraction (lN a) (lN b) part σ = some (g_fr a b part, σ) := by
  have hg := gcd_lt (a := a) h0 hb
  have e : fX3_commonDivisor (lN a) (lN b) σ = some (lN (Nat.gcd a b), σ) := cd_eq σ 63 a b 300 0 hb ha hb (by decide) (by decide)
  unfold fX3_partOfFraction fX3_partOfFraction_b17 g_fr
  rw [e, Option.bind_some]
  simp only [if_neg (fun h => hg.2 ((cmp0 hg.1).mp h)), if_pos (lN_ne0 hg.1 hg.2)]
  split <;> rfl
theorem frac_m (σ : Sto) {a b : Nat} (ha : a < 2 ^ 63) (hb : b < 2 ^ 63) (h0 : 0 < b) (part : Int32) : fX4_partOf (lN a) (lN b) part σ = some (g_fr a b part, σ) := by
  have hg := gcd_lt (a := a) h0 hb
  have e : fX4_divisor (lN a) (lN b) σ = some (lN (Nat.gcd a b), σ) := dv_eq σ 63 a b 300 hb ha hb (by decide)
  unfold fX4_partOf fX4_partOf_b10 g_fr
  by_cases hp : part = 0
  · rw [if_pos hp, if_pos hp, e, Option.bind_some]
    exact if_pos (lN_ne0 hg.1 hg.2)
  · rw [if_neg hp, if_neg hp, e, Option.bind_some]
    exact if_pos (lN_ne0 hg.1 hg.2)
theorem updupd (f : Nat → Int32) (j : Nat) (x y : Int32) : upd (upd f j x) j y = upd f j y := by
  funext i
  unfold upd
  split <;> rfl
def g_sum (f : Nat → Nat) : Nat → Nat
  | 0 => 0
  | n + 1 => g_sum f n + f n
theorem sum_le {f : Nat → Nat} {K : Nat} (h : ∀ n, f n ≤ K) : ∀ n, g_sum f n ≤ n * K := by
  intro n
  induction n with
  | zero => exact Nat.zero_le _
  | succ n ih =>
    have := h n
    have e : (n + 1) * K = n * K + K := Nat.succ_mul n K
    unfold g_sum
    omega
def g_mx (f : Nat → Nat) : Nat → Nat × Nat
  | 0 => (0, f 0)
  | t + 1 => if f (t + 1) ≤ (g_mx f t).2 then g_mx f t else (t + 1, f (t + 1))
theorem mx_le {f : Nat → Nat} {K : Nat} (h : ∀ n, f n ≤ K) : ∀ t, (g_mx f t).1 ≤ t ∧ (g_mx f t).2 ≤ K := by
  intro t
  induction t with
  | zero => exact ⟨Nat.le_refl _, h 0⟩
  | succ t ih =>
    unfold g_mx
    split
    · exact ⟨by omega, ih.2⟩
    · exact ⟨Nat.le_refl _, h _⟩
def g_at (B : BS) (c : Nat) : BS := (upd B.1 2 (nI c), B.2)
theorem at_ok {B : BS} (hB : okB B) {c : Nat} (hc : c < 24) : okB (g_at B c) := okB_up2 hB (nI_pos' (by omega)) (nI_le (b := 24) (by omega) (by decide))
def g_f40 (rd : Int32) (B : BS) (c : Nat) : Nat := (g_fo rd (g_at B c)).getD 40
theorem getD_le {o : Option Nat} {d : Nat} (h : ∀ r, o = some r → r ≤ 40) (hd : 40 ≤ d) : o.getD d ≤ d := by
  cases o with
  | none => exact Nat.le_refl _
  | some r =>
    have := h r rfl
    show r ≤ d
    omega
theorem f40_le (rd : Int32) (B : BS) : ∀ c, g_f40 rd B c ≤ 40 := fun _ => getD_le (fun _ h => fo_le h) (Nat.le_refl _)
theorem mean_cl {rd : Int32} (r0 : 0 ≤ rd) (r1 : rd ≤ 5) (part : Int32) (σ : Sto) (hN : okB (g_nw σ)) : ∀ m n c X, m < n → c + m = 24 → okB X → ∃ X', okB X' ∧ fX3_mean_l29 n rd part (lN (g_sum (g_f40 rd (g_nw σ)) c)) (nI c) (putB σ 5 X) = some (g_fr (g_sum (g_f40 rd (g_nw σ)) 24) 24 part, putB σ 5 X') := by
  intro m
  induction m with
  | zero =>
    intro n c X hn hc hX
    obtain ⟨n, rfl⟩ : ∃ q, n = q + 1 := ⟨n - 1, by omega⟩
    have : c = 24 := by omega
    subst this
    have hs := sum_le (f40_le rd (g_nw σ)) 24
    refine ⟨X, hX, ?_⟩
    rw [fX3_mean_l29, if_pos (show (24 : Int32) ≤ nI 24 by decide)]
    have e := frac_c (putB σ 5 X) (a := g_sum (g_f40 rd (g_nw σ)) 24) (b := 24) (by omega) (by decide) (by decide) part
    have z : lN 24 = (24 : Int64) := rfl
    rw [z] at e
    rw [e, Option.bind_some]
  | succ m ih =>
    intro n c X hn hc hX
    obtain ⟨n, rfl⟩ : ∃ q, n = q + 1 := ⟨n - 1, by omega⟩
    have hk := at_ok hN (c := c) (by omega)
    have e := follow_c r0 r1 σ (g_at (g_nw σ) c) hk
    rw [fX3_mean_l29, if_neg (show ¬ (24 : Int32) ≤ nI (c) from nI_ge (b := 24) (by omega) (by decide)), take51 hN hX, Option.bind_some, putB_up]
    unfold fX3_mean_b56
    unfold g_at at e
    rw [e, Option.bind_some]
    have em := opt_min (o := g_fo rd (g_at (g_nw σ) c)) (fun r hr => fo_le hr)
    have em2 : nI ((g_fo rd (g_at (g_nw σ) c)).getD 40) = nI (g_f40 rd (g_nw σ) c) := rfl
    rw [em2] at em
    unfold g_fo g_at at em
    simp only [em]
    have hle := f40_le rd (g_nw σ) c
    have es : lN (g_sum (g_f40 rd (g_nw σ)) c) + (nI (g_f40 rd (g_nw σ) c)).toInt64 = lN (g_sum (g_f40 rd (g_nw σ)) (c + 1)) := by
      rw [nI_l (by omega), lN_add]
      rfl
    rw [es, nI_1]
    exact ih n (c + 1) _ (by omega) (by omega) (follow_ok r0 r1 hk)
theorem hard_cl {rd : Int32} (r0 : 0 ≤ rd) (r1 : rd ≤ 5) (σ : Sto) (hN : okB (g_nw σ)) : ∀ m n t X, m < n → t + 1 + m = 24 → okB X → ∃ X', okB X' ∧ fX3_hardest_l23 n rd (nI (g_mx (g_f40 rd (g_nw σ)) t).1) (nI (g_mx (g_f40 rd (g_nw σ)) t).2) (nI (t + 1)) (putB σ 5 X) = some (nI (g_mx (g_f40 rd (g_nw σ)) 23).1, putB σ 5 X') := by
  intro m
  induction m with
  | zero =>
    intro n t X hn hc hX
    obtain ⟨n, rfl⟩ : ∃ q, n = q + 1 := ⟨n - 1, by omega⟩
    have : t = 23 := by omega
    subst this
    exact ⟨X, hX, by rw [fX3_hardest_l23, if_pos (show (24 : Int32) ≤ nI (23 + 1) by decide)]⟩
  | succ m ih =>
    intro n t X hn hc hX
    obtain ⟨n, rfl⟩ : ∃ q, n = q + 1 := ⟨n - 1, by omega⟩
    have hk := at_ok hN (c := t + 1) (by omega)
    have e := follow_c r0 r1 σ (g_at (g_nw σ) (t + 1)) hk
    rw [fX3_hardest_l23, if_neg (show ¬ (24 : Int32) ≤ nI (t + 1) from nI_ge (b := 24) (by omega) (by decide)), take51 hN hX, Option.bind_some, putB_up]
    unfold fX3_hardest_b50 fX3_hardest_b77
    unfold g_at at e
    rw [e, Option.bind_some]
    have em := opt_min (o := g_fo rd (g_at (g_nw σ) (t + 1))) (fun r hr => fo_le hr)
    have em2 : nI ((g_fo rd (g_at (g_nw σ) (t + 1))).getD 40) = nI (g_f40 rd (g_nw σ) (t + 1)) := rfl
    rw [em2] at em
    unfold g_fo g_at at em
    simp only [em, nI_1]
    have hle := f40_le rd (g_nw σ) (t + 1)
    have hmx := mx_le (f40_le rd (g_nw σ)) t
    have hI := ih n (t + 1) _ (by omega) (by omega) (follow_ok r0 r1 hk)
    by_cases hc2 : g_f40 rd (g_nw σ) (t + 1) ≤ (g_mx (g_f40 rd (g_nw σ)) t).2
    · rw [if_pos (nI_le hc2 (by omega))]
      have em3 : g_mx (g_f40 rd (g_nw σ)) (t + 1) = g_mx (g_f40 rd (g_nw σ)) t := by
        rw [g_mx, if_pos hc2]
      rw [em3] at hI
      exact hI
    · rw [if_neg (nI_ge (by omega) (by omega))]
      have em3 : g_mx (g_f40 rd (g_nw σ)) (t + 1) = (t + 1, g_f40 rd (g_nw σ) (t + 1)) := by
        rw [g_mx, if_neg hc2]
      rw [em3] at hI
      exact hI
theorem hard_c {rd : Int32} (r0 : 0 ≤ rd) (r1 : rd ≤ 5) (σ : Sto) (hN : okB (g_nw σ)) (hX : okB (σ 5, σ 6)) : ∃ X', okB X' ∧ fX3_hardest_l23 300 rd 0 (-1) 0 σ = some (nI (g_mx (g_f40 rd (g_nw σ)) 23).1, putB σ 5 X') := by
  have hk := at_ok hN (c := 0) (by decide)
  have e := follow_c r0 r1 σ (g_at (g_nw σ) 0) hk
  rw [fX3_hardest_l23, if_neg (show ¬ (24 : Int32) ≤ 0 by decide), take51' hN hX, Option.bind_some, putB_up]
  unfold fX3_hardest_b50 fX3_hardest_b77
  unfold g_at at e
  rw [nI_0] at e
  rw [e, Option.bind_some]
  have em := opt_min (o := g_fo rd (g_at (g_nw σ) 0)) (fun r hr => fo_le hr)
  have em2 : nI ((g_fo rd (g_at (g_nw σ) 0)).getD 40) = nI (g_f40 rd (g_nw σ) 0) := rfl
  rw [em2] at em
  unfold g_fo g_at at em
  rw [nI_0] at em
  have hle := f40_le rd (g_nw σ) 0
  have hn1 : ¬ nI (g_f40 rd (g_nw σ) 0) ≤ -1 := by
    have := nI_pos' (n := g_f40 rd (g_nw σ) 0) (by omega)
    grind
  simp only [em, if_neg hn1]
  have z1 : (0 : Int32) + 1 = nI (0 + 1) := by decide
  have z0 : (0 : Int32) = nI (g_mx (g_f40 rd (g_nw σ)) 0).1 := rfl
  rw [z1, z0]
  exact hard_cl r0 r1 σ hN 23 299 0 _ (by decide) (by decide) (by have := follow_ok r0 r1 hk; unfold g_at at this; rw [nI_0] at this; exact this)
theorem goes_step {rd : Int32} (r0 : 0 ≤ rd) (r1 : rd ≤ 5) (τ : Sto) {B : BS} (hB : okB B) (old most x : Int32) (n c : Nat) (hc : c < 24) : ∃ υ, g_Sk τ υ ∧ fX4_goesAll_l22 (n + 1) rd old most (nI c) (putM τ (upd B.1 2 x, B.2)) = if most < nI (g_f40 rd B c) then fX4_goesAll_l22 n rd old (nI (g_f40 rd B c)) (nI (c + 1)) (putM (upS (upS υ 17 18 (τ 17 18 + nI (g_f40 rd B c))) 17 19 (nI c)) (g_at B c)) else fX4_goesAll_l22 n rd old most (nI (c + 1)) (putM (upS υ 17 18 (τ 17 18 + nI (g_f40 rd B c))) (g_at B c)) := by
  have hk := at_ok hB hc
  obtain ⟨υ, e, hS⟩ := follow_m r0 r1 τ hk
  refine ⟨υ, hS, ?_⟩
  rw [fX4_goesAll_l22, if_neg (show ¬ (24 : Int32) ≤ nI (c) from nI_ge (b := 24) (by omega) (by decide)), putM_u4]
  simp only [updupd]
  unfold fX4_goesAll_b35
  have e' : fX4_followBy rd (putM τ (upd B.1 2 (nI c), B.2)) = some (g_opt (-9) (g_fo rd (g_at B c)), putM υ (g_at B c)) := e
  have eo := opt_else (o := g_fo rd (g_at B c)) (fun r hr => fo_le hr) 40 (putM υ (g_at B c))
  have z40 : nI 40 = (40 : Int32) := rfl
  rw [z40] at eo
  rw [e', Option.bind_some, eo, Option.bind_some]
  unfold fX4_goesAll_b58 fX4_goesAll_b76
  have e18 : putM υ (g_at B c) 17 18 = τ 17 18 := by
    rw [putM_17 _ _ (by decide), hS.2.1 18 (by decide) (by decide)]
  have ef : nI ((g_fo rd (g_at B c)).getD 40) = nI (g_f40 rd B c) := rfl
  simp only [ef, e18, nI_1]
  rw [putM_up7 _ _ _ (by decide), putM_up7 _ _ _ (by decide)]
theorem Sm_18 {τ υ : Sto} (h : g_Sk τ υ) (x : Int32) : g_Sm τ (upS υ 17 18 x) := by
  refine Sm_trans (Sk_Sm h) ⟨fun a a1 _ _ _ _ _ => upS_ne a1, fun j hj => ?_, fun j hj => by rw [upS_ne (by decide)]⟩
  unfold g_sf at hj
  have : j ≠ 18 := by omega
  simp [upS, upd, this]
theorem Sm_19 {τ υ : Sto} (h : g_Sm τ υ) (x : Int32) : g_Sm τ (upS υ 17 19 x) := by
  refine Sm_trans h ⟨fun a a1 _ _ _ _ _ => upS_ne a1, fun j hj => ?_, fun j hj => by rw [upS_ne (by decide)]⟩
  unfold g_sf at hj
  have : j ≠ 19 := by omega
  simp [upS, upd, this]
theorem goes_loop {rd : Int32} (r0 : 0 ≤ rd) (r1 : rd ≤ 5) {B : BS} (hB : okB B) (old : Int32) : ∀ m n t τ x, m < n → t + 1 + m = 24 → τ 17 18 = nI (g_sum (g_f40 rd B) (t + 1)) → τ 17 19 = nI (g_mx (g_f40 rd B) t).1 → ∃ υ, fX4_goesAll_l22 n rd old (nI (g_mx (g_f40 rd B) t).2) (nI (t + 1)) (putM τ (upd B.1 2 x, B.2)) = some ((), putM υ (upd B.1 2 old, B.2)) ∧ υ 17 18 = nI (g_sum (g_f40 rd B) 24) ∧ υ 17 19 = nI (g_mx (g_f40 rd B) 23).1 ∧ g_Sm τ υ := by
  intro m
  induction m with
  | zero =>
    intro n t τ x hn ht h18 h19
    obtain ⟨n, rfl⟩ : ∃ q, n = q + 1 := ⟨n - 1, by omega⟩
    have : t = 23 := by omega
    subst this
    refine ⟨τ, ?_, h18, h19, Sm_refl τ⟩
    rw [fX4_goesAll_l22, if_pos (show (24 : Int32) ≤ nI (23 + 1) by decide), putM_u4]
    simp only [updupd]
  | succ m ih =>
    intro n t τ x hn ht h18 h19
    obtain ⟨n, rfl⟩ : ∃ q, n = q + 1 := ⟨n - 1, by omega⟩
    obtain ⟨υ, hS, e⟩ := goes_step r0 r1 τ hB old (nI (g_mx (g_f40 rd B) t).2) x n (t + 1) (by omega)
    rw [e]
    have hle := f40_le rd B (t + 1)
    have hmx := mx_le (f40_le rd B) t
    have es : τ 17 18 + nI (g_f40 rd B (t + 1)) = nI (g_sum (g_f40 rd B) (t + 1 + 1)) := by
      rw [h18, nI_add]
      rfl
    rw [es]
    by_cases hc2 : g_f40 rd B (t + 1) ≤ (g_mx (g_f40 rd B) t).2
    · rw [if_neg (nI_nlt hc2 (by omega))]
      have em3 : g_mx (g_f40 rd B) (t + 1) = g_mx (g_f40 rd B) t := by
        rw [g_mx, if_pos hc2]
      obtain ⟨φ, k1, k2, k3, k4⟩ := ih n (t + 1) (upS υ 17 18 (nI (g_sum (g_f40 rd B) (t + 1 + 1)))) (nI (t + 1)) (by omega) (by omega) (by simp [upS, upd]) (by rw [em3]; rw [← h19, ← hS.2.1 19 (by decide) (by decide)]; simp [upS, upd])
      rw [em3] at k1
      exact ⟨φ, k1, k2, k3, Sm_trans (Sm_18 hS _) k4⟩
    · rw [if_pos (nI_lt (by omega) (by omega))]
      have em3 : g_mx (g_f40 rd B) (t + 1) = (t + 1, g_f40 rd B (t + 1)) := by
        rw [g_mx, if_neg hc2]
      obtain ⟨φ, k1, k2, k3, k4⟩ := ih n (t + 1) (upS (upS υ 17 18 (nI (g_sum (g_f40 rd B) (t + 1 + 1)))) 17 19 (nI (t + 1))) (nI (t + 1)) (by omega) (by omega) (by simp [upS, upd]) (by rw [em3]; simp [upS, upd])
      rw [em3] at k1
      exact ⟨φ, k1, k2, k3, Sm_trans (Sm_19 (Sm_18 hS _) _) k4⟩
theorem goes_all {rd : Int32} (r0 : 0 ≤ rd) (r1 : rd ≤ 5) (τ : Sto) {B : BS} (hB : okB B) : ∃ υ, fX4_goesAll rd (putM τ B) = some ((), putM υ B) ∧ υ 17 18 = nI (g_sum (g_f40 rd B) 24) ∧ υ 17 19 = nI (g_mx (g_f40 rd B) 23).1 ∧ g_Sm τ υ := by
  have hS0 : g_Sm τ (upS (upS τ 17 18 0) 17 19 (-9)) := Sm_19 (Sm_18 (Sk_refl τ) 0) (-9)
  have h18 : upS (upS τ 17 18 0) 17 19 (-9) 17 18 = 0 := by simp [upS, upd]
  generalize hτ : upS (upS τ 17 18 0) 17 19 (-9) = τ0 at hS0 h18
  obtain ⟨υ, hS, e⟩ := goes_step r0 r1 τ0 hB (B.1 2) (-9) (B.1 2) 299 0 (by decide)
  have hle := f40_le rd B 0
  have hp := nI_pos' (n := g_f40 rd B 0) (by omega)
  rw [if_pos (by grind), h18, nI_0] at e
  have es : 0 + nI (g_f40 rd B 0) = nI (g_sum (g_f40 rd B) (0 + 1)) := by
    rw [← nI_0, nI_add]
    rfl
  rw [es] at e
  obtain ⟨φ, k1, k2, k3, k4⟩ := goes_loop r0 r1 hB (B.1 2) 23 299 0 (upS (upS υ 17 18 (nI (g_sum (g_f40 rd B) (0 + 1)))) 17 19 0) (nI 0) (by decide) (by decide) (by simp [upS, upd]) (by simp [upS, upd, g_mx, nI_0])
  refine ⟨φ, ?_, k2, k3, Sm_trans hS0 (Sm_trans (Sm_19 (Sm_18 hS _) _) k4)⟩
  unfold fX4_goesAll
  rw [putM_4, putM_up7 _ _ _ (by decide), putM_up7 _ _ _ (by decide), hτ]
  rw [updId] at e k1
  refine e.trans ?_
  exact k1
theorem ok_hardest (rd : Int32) : g_Ok (fX3_hardest rd) (fX4_hardest rd) := by
  by_cases h : 0 ≤ rd ∧ rd < 6
  · have h5 : rd ≤ 5 := n_lt 6 5 (by decide) (by decide) h (by decide)
    refine ok_query (fun σ => nI (g_mx (g_f40 rd (g_nw σ)) 23).1) (c_query (v := fun B => nI (g_mx (g_f40 rd B) 23).1) ?_) (m_query (v := fun B => nI (g_mx (g_f40 rd B) 23).1) ?_) ?_
    · intro σ hn hX
      obtain ⟨X', h1, h2⟩ := hard_c h.1 h5 σ hn hX
      refine ⟨X', ?_, h1⟩
      unfold fX3_hardest
      rw [isNot_in _ h.1 h.2, Option.bind_some, if_pos rfl]
      exact h2
    · intro τ B hB
      obtain ⟨υ, e1, e2, e3, e4⟩ := goes_all h.1 h5 τ hB
      refine ⟨υ, ?_, e4⟩
      unfold fX4_hardest
      rw [isIn_in _ h.1 h5, Option.bind_some, if_neg (show ¬ (1 : Int32) = 0 by decide), e1, Option.bind_some]
      simp only [putM_17 _ _ (show (19 : Nat) ≠ 3 ∧ (19 : Nat) ≠ 4 ∧ (19 : Nat) ≠ 5 ∧ (19 : Nat) ≠ 6 by decide), e3]
    · intro σ τ hI hS
      simp only [Sc_nw hS]
  · intro σ hI
    have h2 : ¬ (0 ≤ rd ∧ rd ≤ 5) := by grind
    exact ⟨-2, g_rf 2 σ, g_rm 2 (g_rf 2 σ), by simp only [fX3_hardest, isNot_out _ h, Option.bind_some, eq_self, if_true, if_false, i10, i01, m10, m20, m40, m60, m90, refuse_2], by simp only [fX4_hardest, isIn_out _ h2, Option.bind_some, eq_self, if_true, if_false, i10, i01, m10, m20, m40, m60, m90, no_2], In_rf 2 hI⟩
theorem ok_mean (rd part : Int32) : g_Ok (fX3_mean rd part) (fX4_mean rd part) := by
  by_cases h : 0 ≤ rd ∧ rd < 6
  · have h5 : rd ≤ 5 := n_lt 6 5 (by decide) (by decide) h (by decide)
    by_cases k : 0 ≤ part ∧ part < 2
    · have k5 : part ≤ 1 := n_lt 2 1 (by decide) (by decide) k (by decide)
      refine ok_query (fun σ => g_fr (g_sum (g_f40 rd (g_nw σ)) 24) 24 part) (c_query (v := fun B => g_fr (g_sum (g_f40 rd B) 24) 24 part) ?_) (m_query (v := fun B => g_fr (g_sum (g_f40 rd B) 24) 24 part) ?_) ?_
      · intro σ hn hX
        obtain ⟨X', h1, h2⟩ := mean_cl h.1 h5 part σ hn 24 300 0 (σ 5, σ 6) (by decide) (by decide) hX
        refine ⟨X', ?_, h1⟩
        rw [putB_self] at h2
        unfold fX3_mean
        rw [isNot_in _ h.1 h.2, Option.bind_some, if_pos rfl, isNot_in _ k.1 k.2, Option.bind_some, if_pos rfl]
        exact h2
      · intro τ B hB
        obtain ⟨υ, e1, e2, e3, e4⟩ := goes_all h.1 h5 τ hB
        refine ⟨υ, ?_, e4⟩
        have hs := sum_le (f40_le rd B) 24
        unfold fX4_mean
        rw [isIn_in _ h.1 h5, Option.bind_some, if_neg (show ¬ (1 : Int32) = 0 by decide), isIn_in _ k.1 k5, Option.bind_some, if_neg (show ¬ (1 : Int32) = 0 by decide), e1, Option.bind_some]
        simp only [putM_17 _ _ (show (18 : Nat) ≠ 3 ∧ (18 : Nat) ≠ 4 ∧ (18 : Nat) ≠ 5 ∧ (18 : Nat) ≠ 6 by decide), e2]
        rw [nI_l (by omega)]
        have e := frac_m (putM υ B) (a := g_sum (g_f40 rd B) 24) (b := 24) (by omega) (by decide) (by decide) part
        have z : lN 24 = (24 : Int64) := rfl
        rw [z] at e
        rw [e, Option.bind_some]
      · intro σ τ hI hS
        simp only [Sc_nw hS]
    · intro σ hI
      have k2 : ¬ (0 ≤ part ∧ part ≤ 1) := by grind
      exact ⟨_, g_rf 2 σ, g_rm 2 (g_rf 2 σ), by simp only [fX3_mean, fX3_mean_b17, isNot_in _ h.1 h.2, isNot_out _ k, Option.bind_some, eq_self, if_true, if_false, i10, i01, m10, m20, m40, m60, m90, refuseLong_2]; rfl, by simp only [fX4_mean, fX4_mean_b18, isIn_in _ h.1 h5, isIn_out _ k2, Option.bind_some, eq_self, if_true, if_false, i10, i01, m10, m20, m40, m60, m90, lowest_2], In_rf 2 hI⟩
  · intro σ hI
    have h2 : ¬ (0 ≤ rd ∧ rd ≤ 5) := by grind
    exact ⟨_, g_rf 2 σ, g_rm 2 (g_rf 2 σ), by simp only [fX3_mean, fX3_mean_b17, isNot_out _ h, Option.bind_some, eq_self, if_true, if_false, i10, i01, m10, m20, m40, m60, m90, refuseLong_2]; rfl, by simp only [fX4_mean, fX4_mean_b18, isIn_out _ h2, Option.bind_some, eq_self, if_true, if_false, i10, i01, m10, m20, m40, m60, m90, lowest_2], In_rf 2 hI⟩

