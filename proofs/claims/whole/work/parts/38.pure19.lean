/-! the pure part, 19: the reference's look at letters -/
def g_D (lt : Nat → Int32) (q : Nat) : Int32 := lt q - 48
def g_D2 (lt : Nat → Int32) (q : Nat) : Int32 := 10 * (lt q - 48) + (lt (q + 1) - 48)
def g_Hp (τ : Sto) (L : Nat → Int32) (M q : Nat) : Prop := τ 17 11 = nI M ∧ τ 21 = L ∧ τ 17 12 = nI q
def g_Rd (τ τ' : Sto) (lo hi q : Nat) : Prop := τ' 17 12 = nI q ∧ (∀ a, a ≠ 17 → a ≠ 24 → τ' a = τ a) ∧ (∀ j, j ≠ 12 → τ' 17 j = τ 17 j) ∧ ∀ j, ¬ (lo ≤ j ∧ j < hi) → τ' 24 j = τ 24 j
theorem Rd_hp {τ τ' : Sto} {L : Nat → Int32} {M q q' lo hi : Nat} (h : g_Hp τ L M q) (r : g_Rd τ τ' lo hi q') : g_Hp τ' L M q' := ⟨(r.2.2.1 11 (by decide)).trans h.1, (r.2.1 21 (by decide) (by decide)).trans h.2.1, r.1⟩
theorem Rd_trans {τ τ' τ'' : Sto} {q q' lo hi : Nat} (h : g_Rd τ τ' lo hi q) (k : g_Rd τ' τ'' lo hi q') : g_Rd τ τ'' lo hi q' := ⟨k.1, fun a a1 a2 => (k.2.1 a a1 a2).trans (h.2.1 a a1 a2), fun j hj => (k.2.2.1 j hj).trans (h.2.2.1 j hj), fun j hj => (k.2.2.2 j hj).trans (h.2.2.2 j hj)⟩
theorem Rd_refl {τ : Sto} {q lo hi : Nat} (h : τ 17 12 = nI q) : g_Rd τ τ lo hi q := ⟨h, fun _ _ _ => rfl, fun _ _ => rfl, fun _ _ => rfl⟩
theorem Rd_pl {τ : Sto} (q lo hi : Nat) : g_Rd τ (upS τ 17 12 (nI q)) lo hi q := by
  refine ⟨by simp [upS_app], fun a a1 a2 => upS_ne a1, fun j hj => by simp [upS_app, hj], fun j _ => by simp [upS_app]⟩
theorem Rd_to {τ : Sto} {q lo hi i : Nat} (h : τ 17 12 = nI q) (h1 : lo ≤ i) (h2 : i < hi) (x : Int32) : g_Rd τ (upS τ 24 i x) lo hi q := by
  refine ⟨by simp [upS_app, h], fun a a1 a2 => upS_ne a2, fun j hj => by simp [upS_app], fun j hj => ?_⟩
  have : j ≠ i := by omega
  simp [upS_app, this]
theorem ft100 (x : Int32) : g_ft 100 x = decide (48 ≤ x ∧ x ≤ 57) := rfl
theorem dig1 {L : Nat → Int32} {M q : Nat} (hM : M ≤ 80) {τ : Sto} (h : g_Hp τ L M q) (hq : q < 2 ^ 30) {i : Nat} (hi : i < 120) (d v j : Nat) (a : Int32) (n : Nat) (hj : j < d) (hd : d < 3) : fX4_readsDigits_l5 (n + 1) (nI i) (nI d) a (nI j) τ = if g_ft 100 (g_lt L M q) = true then fX4_readsDigits_l5 n (nI i) (nI d) ((10 * a + g_lt L M q) - 48) (nI (j + 1)) (upS τ 17 12 (nI (q + 1))) else some (0, τ) := by
  have e := nx_eq τ hM h.1 h.2.1 h.2.2 (by omega)
  rw [fX4_readsDigits_l5, if_neg (nI_ge hj (by omega)), e, Option.bind_some, ft100]
  by_cases hf : 48 ≤ g_lt L M q ∧ g_lt L M q ≤ 57
  · rw [isIn_in _ hf.1 hf.2, Option.bind_some, if_neg (show ¬ (1 : Int32) = 0 by decide), e, Option.bind_some]
    dsimp only
    rw [h.2.2, nI_1, nI_1, if_pos (decide_eq_true hf)]
  · rw [isIn_out _ hf, Option.bind_some, if_pos rfl, decide_eq_false hf]
    rfl
theorem dig0 {τ : Sto} {i : Nat} (hi : i < 120) (d : Nat) (a : Int32) (n : Nat) (hd : d < 3) : fX4_readsDigits_l5 (n + 1) (nI i) (nI d) a (nI d) τ = some (1, upS τ 24 i a) := by
  rw [fX4_readsDigits_l5, if_pos (nI_le (Nat.le_refl _) (by omega)), if_pos (inb_nI hi (by decide)), nI_clamp (by omega)]
theorem t0x (c : Int32) : (10 * 0 + c) - 48 = c - 48 := by rw [Int32.mul_zero, Int32.zero_add]
theorem t2x (c d : Int32) : (10 * (c - 48) + d) - 48 = 10 * (c - 48) + (d - 48) := by grind
theorem rd1 {L : Nat → Int32} {M q : Nat} (hM : M ≤ 80) {τ : Sto} (h : g_Hp τ L M q) (hq : q < 2 ^ 30) {i lo hi : Nat} (hi1 : i < 120) (h1 : lo ≤ i) (h2 : i < hi) : ∃ τ', fX4_readsDigits (nI i) 1 τ = some (if g_ft 100 (g_lt L M q) = true then 1 else 0, τ') ∧ g_Rd τ τ' lo hi (if g_ft 100 (g_lt L M q) = true then q + 1 else q) ∧ (g_ft 100 (g_lt L M q) = true → τ' 24 i = g_D (g_lt L M) q) := by
  have e1 := dig1 hM h hq hi1 1 0 0 0 299 (by decide) (by decide)
  have z0 : nI 0 = (0 : Int32) := rfl
  have z1 : nI 1 = (1 : Int32) := rfl
  rw [z0, z1, show 299 + 1 = 300 from rfl] at e1
  unfold fX4_readsDigits fX4_readsDigits_e
  by_cases hf : g_ft 100 (g_lt L M q) = true
  · have e2 := dig0 (τ := upS τ 17 12 (nI (q + 1))) hi1 1 ((10 * 0 + g_lt L M q) - 48) 298 (by decide)
    rw [z1, show 298 + 1 = 299 from rfl] at e2
    rw [if_pos hf, e2, t0x] at e1
    refine ⟨upS (upS τ 17 12 (nI (q + 1))) 24 i (g_lt L M q - 48), ?_, ?_, ?_⟩
    · rw [e1, Option.bind_some, chkZ_1, if_pos hf]
    · rw [if_pos hf]
      exact Rd_trans (Rd_pl (q + 1) lo hi) (Rd_to (by simp [upS_app]) h1 h2 _)
    · intro _
      simp [upS_app, g_D]
  · rw [if_neg hf] at e1
    refine ⟨τ, ?_, ?_, fun k => absurd k hf⟩
    · rw [e1, Option.bind_some, chkZ_0, if_neg hf]
    · rw [if_neg hf]
      exact Rd_refl h.2.2
theorem rd2 {L : Nat → Int32} {M q : Nat} (hM : M ≤ 80) {τ : Sto} (h : g_Hp τ L M q) (hq : q < 2 ^ 29) {i lo hi : Nat} (hi1 : i < 120) (h1 : lo ≤ i) (h2 : i < hi) : ∃ τ', fX4_readsDigits (nI i) 2 τ = some (if g_ft 100 (g_lt L M q) = true then (if g_ft 100 (g_lt L M (q + 1)) = true then 1 else 0) else 0, τ') ∧ g_Rd τ τ' lo hi (if g_ft 100 (g_lt L M q) = true then (if g_ft 100 (g_lt L M (q + 1)) = true then q + 2 else q + 1) else q) ∧ (g_ft 100 (g_lt L M q) = true → g_ft 100 (g_lt L M (q + 1)) = true → τ' 24 i = g_D2 (g_lt L M) q) := by
  have e1 := dig1 hM h (by omega) hi1 2 0 0 0 299 (by decide) (by decide)
  have z0 : nI 0 = (0 : Int32) := rfl
  have z2 : nI 2 = (2 : Int32) := rfl
  rw [z0, z2, show 299 + 1 = 300 from rfl] at e1
  unfold fX4_readsDigits fX4_readsDigits_e
  by_cases hf : g_ft 100 (g_lt L M q) = true
  · have hr : g_Rd τ (upS τ 17 12 (nI (q + 1))) lo hi (q + 1) := Rd_pl (q + 1) lo hi
    have e2 := dig1 hM (Rd_hp h hr) (by omega) hi1 2 0 1 ((10 * 0 + g_lt L M q) - 48) 298 (by decide) (by decide)
    rw [z2, show 298 + 1 = 299 from rfl] at e2
    rw [if_pos hf, show 0 + 1 = 1 from rfl, e2, t0x] at e1
    by_cases hg : g_ft 100 (g_lt L M (q + 1)) = true
    · have e3 := dig0 (τ := upS (upS τ 17 12 (nI (q + 1))) 17 12 (nI (q + 1 + 1))) hi1 2 ((10 * (g_lt L M q - 48) + g_lt L M (q + 1)) - 48) 297 (by decide)
      rw [z2, show 297 + 1 = 298 from rfl] at e3
      rw [if_pos hg, e3, t2x] at e1
      refine ⟨upS (upS (upS τ 17 12 (nI (q + 1))) 17 12 (nI (q + 1 + 1))) 24 i (10 * (g_lt L M q - 48) + (g_lt L M (q + 1) - 48)), ?_, ?_, ?_⟩
      · rw [e1, Option.bind_some, chkZ_1, if_pos hf, if_pos hg]
      · rw [if_pos hf, if_pos hg]
        exact Rd_trans hr (Rd_trans (Rd_pl (q + 1 + 1) lo hi) (Rd_to (by simp [upS_app]) h1 h2 _))
      · intro _ _
        simp [upS_app, g_D2]
    · rw [if_neg hg] at e1
      refine ⟨upS τ 17 12 (nI (q + 1)), ?_, ?_, fun _ k => absurd k hg⟩
      · rw [e1, Option.bind_some, chkZ_0, if_pos hf, if_neg hg]
      · rw [if_pos hf, if_neg hg]
        exact hr
  · rw [if_neg hf] at e1
    refine ⟨τ, ?_, ?_, fun k => absurd k hf⟩
    · rw [e1, Option.bind_some, chkZ_0, if_neg hf]
    · rw [if_neg hf]
      exact Rd_refl h.2.2
theorem wk_0 (lt : Nat → Int32) (q : Nat) : g_wk lt 0 4 0 q = if g_ft 107 (lt q) = true then (if g_ft 100 (lt (q + 1)) = true then (if g_ft 100 (lt (q + 2)) = true then (if g_ft 59 (lt (q + 3)) = true then (q + 4, true) else (q + 3, false)) else (q + 2, false)) else (q + 1, false)) else (q, false) := rfl
theorem wk_1 (lt : Nat → Int32) (q : Nat) : g_wk lt 1 4 0 q = if g_ft 100 (lt q) = true then (if g_ft 100 (lt (q + 1)) = true then (if g_ft 100 (lt (q + 2)) = true then (if g_ft 59 (lt (q + 3)) = true then (q + 4, true) else (q + 3, false)) else (q + 2, false)) else (q + 1, false)) else (q, false) := rfl
theorem wk_2 (lt : Nat → Int32) (q : Nat) : g_wk lt 2 2 0 q = if g_ft 100 (lt q) = true then (if g_ft 59 (lt (q + 1)) = true then (q + 2, true) else (q + 1, false)) else (q, false) := rfl
theorem wk_3 (lt : Nat → Int32) (q : Nat) : g_wk lt 3 3 0 q = if g_ft 100 (lt q) = true then (if g_ft 100 (lt (q + 1)) = true then (if g_ft 59 (lt (q + 2)) = true then (q + 3, true) else (q + 2, false)) else (q + 1, false)) else (q, false) := rfl
def g_To (t : Nat → Int32) (lt : Nat → Int32) (b : Int32) (k q : Nat) : Prop := (b = 105 → t (3 * k) = g_kx (lt q) ∧ t (3 * k + 1) = g_D2 lt (q + 1)) ∧ (b = 104 → t (3 * k) = g_D lt q ∧ t (3 * k + 1) = g_D lt (q + 1) ∧ t (3 * k + 2) = g_D lt (q + 2)) ∧ (b = 109 → t (3 * k) = g_D lt q) ∧ (b = 115 → t (3 * k) = g_D2 lt q) ∧ (b = 111 → t (3 * k) = g_D2 lt q ∧ t (3 * k + 1) = g_D lt (q + 2))
/-- what reading all behind a first letter shows -/
def g_Ra (τ : Sto) (lt : Nat → Int32) (b : Int32) (k q : Nat) (o : Option (Int32 × Sto)) : Prop := ∃ (ok : Bool) (τ' : Sto) (q' : Nat), o = some (if ok = true then 1 else 0, τ') ∧ g_Rd τ τ' (3 * k) (3 * k + 3) q' ∧ (ok = true → g_wk lt (g_sh b) (g_ln (g_sh b)) 0 q = (if g_ft 59 (lt q') = true then (q' + 1, true) else (q', false)) ∧ g_To (τ' 24) lt b k q) ∧ (ok = false → g_wk lt (g_sh b) (g_ln (g_sh b)) 0 q = (q', false)) ∧ q' ≤ q + 4
theorem b_if (b : Bool) : (if b = true then (1 : Int32) else 0) = if b = true then 1 else 0 := rfl
theorem if_b1 {b : Bool} (h : ¬ b = true) : b = false := by simpa using h
theorem d105 : ((105 : Int32) = 104) = False ∧ ((105 : Int32) = 109) = False ∧ ((105 : Int32) = 115) = False ∧ ((105 : Int32) = 111) = False := by decide

theorem ra_h {L : Nat → Int32} {M q : Nat} (hM : M ≤ 80) {τ : Sto} (h : g_Hp τ L M q) (hq : q < 2 ^ 28) {k : Nat} (hk : k < 30) : g_Ra τ (g_lt L M) 104 k q (fX4_readsAll 104 (nI (3 * k)) τ) := by
  obtain ⟨τ1, e1, r1, t1⟩ := rd1 hM h (by omega) (i := 3 * k) (lo := 3 * k) (hi := 3 * k + 3) (by omega) (by omega) (by omega)
  have z1 : nI (3 * k) + 1 = nI (3 * k + 1) := nI_1 _
  have z2 : nI (3 * k) + 2 = nI (3 * k + 2) := by
    have : (2 : Int32) = nI 2 := rfl
    rw [this, nI_add]
  have ew : g_wk (g_lt L M) (g_sh 104) (g_ln (g_sh 104)) 0 q = g_wk (g_lt L M) 1 4 0 q := rfl
  unfold fX4_readsAll fX4_readsAll_e
  rw [if_pos rfl, e1, Option.bind_some]
  by_cases f1 : g_ft 100 (g_lt L M q) = true
  · rw [if_pos f1] at r1
    have h1 := Rd_hp h r1
    obtain ⟨τ2, e2, r2n, t2⟩ := rd1 hM h1 (by omega) (i := 3 * k + 1) (lo := 3 * k + 1) (hi := 3 * k + 3) (by omega) (by omega) (by omega)
    have r2 : g_Rd τ1 τ2 (3 * k) (3 * k + 3) (if g_ft 100 (g_lt L M (q + 1)) = true then q + 1 + 1 else q + 1) := ⟨r2n.1, r2n.2.1, r2n.2.2.1, fun j hj => r2n.2.2.2 j (by omega)⟩
    rw [if_pos f1, if_neg (show ¬ (1 : Int32) = 0 by decide), z1, e2, Option.bind_some]
    by_cases f2 : g_ft 100 (g_lt L M (q + 1)) = true
    · rw [if_pos f2] at r2
      have h2 := Rd_hp h1 r2
      obtain ⟨τ3, e3, r3, t3⟩ := rd1 hM h2 (by omega) (i := 3 * k + 2) (lo := 3 * k + 2) (hi := 3 * k + 3) (by omega) (by omega) (by omega)
      rw [if_pos f2, if_neg (show ¬ (1 : Int32) = 0 by decide), z2, e3, Option.bind_some]
      have r3' : ∀ q', g_Rd τ2 τ3 (3 * k + 2) (3 * k + 3) q' → g_Rd τ2 τ3 (3 * k) (3 * k + 3) q' := fun q' r => ⟨r.1, r.2.1, r.2.2.1, fun j hj => r.2.2.2 j (by omega)⟩
      by_cases f3 : g_ft 100 (g_lt L M (q + 1 + 1)) = true
      · rw [if_pos f3] at r3
        rw [if_pos f3, if_neg (show ¬ (1 : Int32) = 0 by decide), Option.bind_some, chkZ_1]
        refine ⟨true, τ3, q + 1 + 1 + 1, rfl, Rd_trans r1 (Rd_trans r2 (r3' _ r3)), fun _ => ⟨?_, ?_⟩, fun e => (by cases e), by omega⟩
        · rw [ew, wk_1, if_pos f1, if_pos f2, if_pos f3]
        · refine ⟨fun e => absurd e (by decide), fun _ => ⟨?_, ?_, t3 f3⟩, fun e => absurd e (by decide), fun e => absurd e (by decide), fun e => absurd e (by decide)⟩
          · rw [r3.2.2.2 (3 * k) (by omega)]
            rw [r2n.2.2.2 (3 * k) (by omega)]
            exact t1 f1
          · rw [r3.2.2.2 (3 * k + 1) (by omega)]
            exact t2 f2
      · rw [if_neg f3] at r3
        rw [if_neg f3, if_pos rfl, Option.bind_some, chkZ_0]
        refine ⟨false, τ3, q + 1 + 1, rfl, Rd_trans r1 (Rd_trans r2 (r3' _ r3)), fun e => (by cases e), fun _ => ?_, by omega⟩
        rw [ew, wk_1, if_pos f1, if_pos f2, if_neg f3]
    · rw [if_neg f2] at r2
      rw [if_neg f2, if_pos rfl, Option.bind_some, chkZ_0]
      refine ⟨false, τ2, q + 1, rfl, Rd_trans r1 r2, fun e => (by cases e), fun _ => ?_, by omega⟩
      rw [ew, wk_1, if_pos f1, if_neg f2]
  · rw [if_neg f1] at r1
    rw [if_neg f1, if_pos rfl, Option.bind_some, chkZ_0]
    refine ⟨false, τ1, q, rfl, r1, fun e => (by cases e), fun _ => ?_, by omega⟩
    rw [ew, wk_1, if_neg f1]

theorem ra_m {L : Nat → Int32} {M q : Nat} (hM : M ≤ 80) {τ : Sto} (h : g_Hp τ L M q) (hq : q < 2 ^ 28) {k : Nat} (hk : k < 30) : g_Ra τ (g_lt L M) 109 k q (fX4_readsAll 109 (nI (3 * k)) τ) := by
  obtain ⟨τ1, e1, r1, t1⟩ := rd1 hM h (by omega) (i := 3 * k) (lo := 3 * k) (hi := 3 * k + 3) (by omega) (by omega) (by omega)
  have ew : g_wk (g_lt L M) (g_sh 109) (g_ln (g_sh 109)) 0 q = g_wk (g_lt L M) 2 2 0 q := rfl
  unfold fX4_readsAll fX4_readsAll_e
  rw [if_neg (show ¬ (109 : Int32) = 104 by decide), if_neg (show ¬ (109 : Int32) = 105 by decide), if_pos rfl, e1, Option.bind_some, Option.bind_some]
  by_cases f1 : g_ft 100 (g_lt L M q) = true
  · rw [if_pos f1] at r1
    dsimp only
    rw [if_pos f1, chkZ_1]
    refine ⟨true, τ1, q + 1, rfl, r1, fun _ => ⟨?_, ?_⟩, fun e => (by cases e), by omega⟩
    · rw [ew, wk_2, if_pos f1]
    · exact ⟨fun e => absurd e (by decide), fun e => absurd e (by decide), fun _ => t1 f1, fun e => absurd e (by decide), fun e => absurd e (by decide)⟩
  · rw [if_neg f1] at r1
    dsimp only
    rw [if_neg f1, chkZ_0]
    refine ⟨false, τ1, q, rfl, r1, fun e => (by cases e), fun _ => ?_, by omega⟩
    rw [ew, wk_2, if_neg f1]
theorem ra_s {L : Nat → Int32} {M q : Nat} (hM : M ≤ 80) {τ : Sto} (h : g_Hp τ L M q) (hq : q < 2 ^ 28) {k : Nat} (hk : k < 30) : g_Ra τ (g_lt L M) 115 k q (fX4_readsAll 115 (nI (3 * k)) τ) := by
  obtain ⟨τ1, e1, r1, t1⟩ := rd2 hM h (by omega) (i := 3 * k) (lo := 3 * k) (hi := 3 * k + 3) (by omega) (by omega) (by omega)
  have ew : g_wk (g_lt L M) (g_sh 115) (g_ln (g_sh 115)) 0 q = g_wk (g_lt L M) 3 3 0 q := rfl
  unfold fX4_readsAll fX4_readsAll_e
  rw [if_neg (show ¬ (115 : Int32) = 104 by decide), if_neg (show ¬ (115 : Int32) = 105 by decide), if_neg (show ¬ (115 : Int32) = 109 by decide), if_pos rfl, e1, Option.bind_some, Option.bind_some]
  dsimp only
  by_cases f1 : g_ft 100 (g_lt L M q) = true
  · by_cases f2 : g_ft 100 (g_lt L M (q + 1)) = true
    · rw [if_pos f1, if_pos f2] at r1
      rw [if_pos f1, if_pos f2, chkZ_1]
      refine ⟨true, τ1, q + 2, rfl, r1, fun _ => ⟨?_, ?_⟩, fun e => (by cases e), by omega⟩
      · rw [ew, wk_3, if_pos f1, if_pos f2]
      · exact ⟨fun e => absurd e (by decide), fun e => absurd e (by decide), fun e => absurd e (by decide), fun _ => t1 f1 f2, fun e => absurd e (by decide)⟩
    · rw [if_pos f1, if_neg f2] at r1
      rw [if_pos f1, if_neg f2, chkZ_0]
      refine ⟨false, τ1, q + 1, rfl, r1, fun e => (by cases e), fun _ => ?_, by omega⟩
      rw [ew, wk_3, if_pos f1, if_neg f2]
  · rw [if_neg f1] at r1
    rw [if_neg f1, chkZ_0]
    refine ⟨false, τ1, q, rfl, r1, fun e => (by cases e), fun _ => ?_, by omega⟩
    rw [ew, wk_3, if_neg f1]
theorem ra_o {L : Nat → Int32} {M q : Nat} (hM : M ≤ 80) {τ : Sto} (h : g_Hp τ L M q) (hq : q < 2 ^ 28) {k : Nat} (hk : k < 30) : g_Ra τ (g_lt L M) 111 k q (fX4_readsAll 111 (nI (3 * k)) τ) := by
  obtain ⟨τ1, e1, r1, t1⟩ := rd2 hM h (by omega) (i := 3 * k) (lo := 3 * k) (hi := 3 * k + 3) (by omega) (by omega) (by omega)
  have z1 : nI (3 * k) + 1 = nI (3 * k + 1) := nI_1 _
  have ew : g_wk (g_lt L M) (g_sh 111) (g_ln (g_sh 111)) 0 q = g_wk (g_lt L M) 1 4 0 q := rfl
  unfold fX4_readsAll fX4_readsAll_e
  rw [if_neg (show ¬ (111 : Int32) = 104 by decide), if_neg (show ¬ (111 : Int32) = 105 by decide), if_neg (show ¬ (111 : Int32) = 109 by decide), if_neg (show ¬ (111 : Int32) = 115 by decide), e1, Option.bind_some]
  by_cases f1 : g_ft 100 (g_lt L M q) = true
  · by_cases f2 : g_ft 100 (g_lt L M (q + 1)) = true
    · rw [if_pos f1, if_pos f2] at r1
      have h1 := Rd_hp h r1
      obtain ⟨τ2, e2, r2n, t2⟩ := rd1 hM h1 (by omega) (i := 3 * k + 1) (lo := 3 * k + 1) (hi := 3 * k + 3) (by omega) (by omega) (by omega)
      have r2 : g_Rd τ1 τ2 (3 * k) (3 * k + 3) (if g_ft 100 (g_lt L M (q + 2)) = true then q + 2 + 1 else q + 2) := ⟨r2n.1, r2n.2.1, r2n.2.2.1, fun j hj => r2n.2.2.2 j (by omega)⟩
      rw [if_pos f1, if_pos f2, if_neg (show ¬ (1 : Int32) = 0 by decide), z1, e2, Option.bind_some]
      by_cases f3 : g_ft 100 (g_lt L M (q + 2)) = true
      · rw [if_pos f3] at r2
        rw [if_pos f3, if_neg (show ¬ (1 : Int32) = 0 by decide), Option.bind_some, chkZ_1]
        refine ⟨true, τ2, q + 2 + 1, rfl, Rd_trans r1 r2, fun _ => ⟨?_, ?_⟩, fun e => (by cases e), by omega⟩
        · rw [ew, wk_1, if_pos f1, if_pos f2, if_pos f3]
        · refine ⟨fun e => absurd e (by decide), fun e => absurd e (by decide), fun e => absurd e (by decide), fun e => absurd e (by decide), fun _ => ⟨?_, t2 f3⟩⟩
          rw [r2n.2.2.2 (3 * k) (by omega)]
          exact t1 f1 f2
      · rw [if_neg f3] at r2
        rw [if_neg f3, if_pos rfl, Option.bind_some, chkZ_0]
        refine ⟨false, τ2, q + 2, rfl, Rd_trans r1 r2, fun e => (by cases e), fun _ => ?_, by omega⟩
        rw [ew, wk_1, if_pos f1, if_pos f2, if_neg f3]
    · rw [if_pos f1, if_neg f2] at r1
      rw [if_pos f1, if_neg f2, if_pos rfl, Option.bind_some, chkZ_0]
      refine ⟨false, τ1, q + 1, rfl, r1, fun e => (by cases e), fun _ => ?_, by omega⟩
      rw [ew, wk_1, if_pos f1, if_neg f2]
  · rw [if_neg f1] at r1
    rw [if_neg f1, if_pos rfl, Option.bind_some, chkZ_0]
    refine ⟨false, τ1, q, rfl, r1, fun e => (by cases e), fun _ => ?_, by omega⟩
    rw [ew, wk_1, if_neg f1]
theorem ft107 (x : Int32) : g_ft 107 x = decide (0 ≤ g_kx x) := rfl
theorem ra_i {L : Nat → Int32} {M q : Nat} (hM : M ≤ 80) {τ : Sto} (h : g_Hp τ L M q) (hq : q < 2 ^ 28) {k : Nat} (hk : k < 30) : g_Ra τ (g_lt L M) 105 k q (fX4_readsAll 105 (nI (3 * k)) τ) := by
  have z1 : nI (3 * k) + 1 = nI (3 * k + 1) := nI_1 _
  have ew : g_wk (g_lt L M) (g_sh 105) (g_ln (g_sh 105)) 0 q = g_wk (g_lt L M) 0 4 0 q := rfl
  have en := nx_eq τ hM h.1 h.2.1 h.2.2 (by omega)
  have ib : inb (nI (3 * k)) 120 = true := inb_nI (by omega) (by decide)
  have r0 : g_Rd τ (upS τ 24 (3 * k) (g_kx (g_lt L M q))) (3 * k) (3 * k + 3) q := Rd_to h.2.2 (by omega) (by omega) _
  have e24 : upS τ 24 (3 * k) (g_kx (g_lt L M q)) 24 (3 * k) = g_kx (g_lt L M q) := by simp [upS_app]
  unfold fX4_readsAll fX4_readsAll_e
  rw [if_neg (show ¬ (105 : Int32) = 104 by decide), if_pos rfl]
  unfold fX4_readsItch fX4_readsItch_e fX4_readsItch_b13 fX4_readsItch_b34
  rw [en, Option.bind_some, kindOf_eq, Option.bind_some, if_pos ib, if_pos ib, nI_clamp (show 3 * k < 2 ^ 31 by omega)]
  dsimp only
  rw [e24]
  by_cases f1 : 0 ≤ g_kx (g_lt L M q)
  · have f1' : g_ft 107 (g_lt L M q) = true := by
      rw [ft107]
      exact decide_eq_true f1
    have p12 : upS τ 24 (3 * k) (g_kx (g_lt L M q)) 17 12 + 1 = nI (q + 1) := by
      rw [upS_ne (by decide), h.2.2, nI_1]
    have r1 : g_Rd τ (upS (upS τ 24 (3 * k) (g_kx (g_lt L M q))) 17 12 (nI (q + 1))) (3 * k) (3 * k + 3) (q + 1) := Rd_trans r0 (Rd_pl _ _ _)
    have h1 := Rd_hp h r1
    obtain ⟨τ2, e2, r2n, t2⟩ := rd2 hM h1 (by omega) (i := 3 * k + 1) (lo := 3 * k + 1) (hi := 3 * k + 3) (by omega) (by omega) (by omega)
    have r2 : g_Rd (upS (upS τ 24 (3 * k) (g_kx (g_lt L M q))) 17 12 (nI (q + 1))) τ2 (3 * k) (3 * k + 3) _ := ⟨r2n.1, r2n.2.1, r2n.2.2.1, fun j hj => r2n.2.2.2 j (by omega)⟩
    rw [if_pos f1, p12, z1, e2, Option.bind_some, Option.bind_some]
    dsimp only
    by_cases f2 : g_ft 100 (g_lt L M (q + 1)) = true
    · by_cases f3 : g_ft 100 (g_lt L M (q + 1 + 1)) = true
      · rw [if_pos f2, if_pos f3] at r2
        rw [if_pos f2, if_pos f3, chkZ_1, Option.bind_some, Option.bind_some, chkZ_1]
        refine ⟨true, τ2, q + 1 + 2, rfl, Rd_trans r1 r2, fun _ => ⟨?_, ?_⟩, fun e => (by cases e), by omega⟩
        · rw [ew, wk_0, if_pos f1', if_pos f2, if_pos f3]
        · refine ⟨fun _ => ⟨?_, t2 f2 f3⟩, fun e => absurd e (by decide), fun e => absurd e (by decide), fun e => absurd e (by decide), fun e => absurd e (by decide)⟩
          rw [r2n.2.2.2 (3 * k) (by omega)]
          simp [upS_app]
      · rw [if_pos f2, if_neg f3] at r2
        rw [if_pos f2, if_neg f3, chkZ_0, Option.bind_some, Option.bind_some, chkZ_0]
        refine ⟨false, τ2, q + 1 + 1, rfl, Rd_trans r1 r2, fun e => (by cases e), fun _ => ?_, by omega⟩
        rw [ew, wk_0, if_pos f1', if_pos f2, if_neg f3]
    · rw [if_neg f2] at r2
      rw [if_neg f2, chkZ_0, Option.bind_some, Option.bind_some, chkZ_0]
      refine ⟨false, τ2, q + 1, rfl, Rd_trans r1 r2, fun e => (by cases e), fun _ => ?_, by omega⟩
      rw [ew, wk_0, if_pos f1', if_neg f2]
  · have f1' : ¬ g_ft 107 (g_lt L M q) = true := by
      rw [ft107]
      simpa using f1
    rw [if_neg f1, Option.bind_some, chkZ_0, Option.bind_some, Option.bind_some, chkZ_0]
    refine ⟨false, _, q, rfl, r0, fun e => (by cases e), fun _ => ?_, by omega⟩
    rw [ew, wk_0, if_neg f1']
theorem sh_b {b : Int32} (h : ¬ g_sh b = 4) : b = 105 ∨ b = 104 ∨ b = 109 ∨ b = 115 ∨ b = 111 := by
  unfold g_sh at h
  grind
theorem ra_all {L : Nat → Int32} {M q : Nat} (hM : M ≤ 80) {τ : Sto} (h : g_Hp τ L M q) (hq : q < 2 ^ 28) {k : Nat} (hk : k < 30) {b : Int32} (hb : ¬ g_sh b = 4) : g_Ra τ (g_lt L M) b k q (fX4_readsAll b (nI (3 * k)) τ) := by
  rcases sh_b hb with rfl | rfl | rfl | rfl | rfl
  · exact ra_i hM h hq hk
  · exact ra_h hM h hq hk
  · exact ra_m hM h hq hk
  · exact ra_s hM h hq hk
  · exact ra_o hM h hq hk

