/-! the pure part, 23: the law's loop over calls -/
theorem lb {α : Type} {f g : Sto → Option (α × Sto)} (hO : g_Ok f g) {P : α → α → Prop} [∀ a b, Decidable (P a b)] (hP : ∀ a, P a a) {k18 : Sto → Option (Int32 × Sto)} (hk : ∀ σ', g_In σ' → ∃ τ, k18 σ' = some (1, τ)) {σ : Sto} (hI : g_In σ) : ∃ τ, ((f σ).bind fun q1 => (g q1.2).bind fun q2 => if P q1.1 q2.1 then k18 q2.2 else some ((0 : Int32), q2.2)) = some (1, τ) := by
  obtain ⟨v, σ1, σ2, e1, e2, h⟩ := hO σ hI
  obtain ⟨τ, e3⟩ := hk σ2 h
  refine ⟨τ, ?_⟩
  rw [e1, Option.bind_some, e2, Option.bind_some, if_pos (hP v), e3]
theorem cmp_self (a : Int64) : lg_cmp a a = 0 := by
  unfold lg_cmp
  have h : ¬ a > a := Int64.lt_irrefl
  rw [if_neg h, if_pos rfl]

theorem lw_188 (X : Scr) {k18 : Int32 → Sto → Option (Int32 × Sto)} {v3 : Int32} (hk : ∀ σ', g_In σ' → ∃ τ, k18 (v3 + 5) σ' = some (1, τ)) (i1 : inb (v3 + (1 : Int32)) X.1 = true) {σ : Sto} (hI : g_In σ) : ∃ τ, fL_law_b188 k18 X v3 σ = some (1, τ) := by
  unfold fL_law_b188 fL_law_b1055
  simp only [i1, if_true]
  exact lb (ok_letter _) (P := (fun a b => a = b)) (fun _ => rfl) hk hI
theorem lw_211 (X : Scr) {k18 : Int32 → Sto → Option (Int32 × Sto)} {v3 : Int32} (hk : ∀ σ', g_In σ' → ∃ τ, k18 (v3 + 5) σ' = some (1, τ))  {σ : Sto} (hI : g_In σ) : ∃ τ, fL_law_b211 k18 X v3 σ = some (1, τ) := by
  unfold fL_law_b211 fL_law_b1055
  exact lb (ok_back ) (P := (fun a b => a = b)) (fun _ => rfl) hk hI
theorem lw_224 (X : Scr) {k18 : Int32 → Sto → Option (Int32 × Sto)} {v3 : Int32} (hk : ∀ σ', g_In σ' → ∃ τ, k18 (v3 + 5) σ' = some (1, τ)) (i1 : inb (v3 + (1 : Int32)) X.1 = true) {σ : Sto} (hI : g_In σ) : ∃ τ, fL_law_b224 k18 X v3 σ = some (1, τ) := by
  unfold fL_law_b224 fL_law_b1055
  simp only [i1, if_true]
  exact lb (ok_itch _) (P := (fun a b => a = b)) (fun _ => rfl) hk hI
theorem lw_247 (X : Scr) {k18 : Int32 → Sto → Option (Int32 × Sto)} {v3 : Int32} (hk : ∀ σ', g_In σ' → ∃ τ, k18 (v3 + 5) σ' = some (1, τ)) (i1 : inb (v3 + (1 : Int32)) X.1 = true) {σ : Sto} (hI : g_In σ) : ∃ τ, fL_law_b247 k18 X v3 σ = some (1, τ) := by
  unfold fL_law_b247 fL_law_b1055
  simp only [i1, if_true]
  exact lb (ok_sore _) (P := (fun a b => a = b)) (fun _ => rfl) hk hI
theorem lw_270 (X : Scr) {k18 : Int32 → Sto → Option (Int32 × Sto)} {v3 : Int32} (hk : ∀ σ', g_In σ' → ∃ τ, k18 (v3 + 5) σ' = some (1, τ)) (i1 : inb (v3 + (1 : Int32)) X.1 = true) {σ : Sto} (hI : g_In σ) : ∃ τ, fL_law_b270 k18 X v3 σ = some (1, τ) := by
  unfold fL_law_b270 fL_law_b1055
  simp only [i1, if_true]
  exact lb (ok_heal _) (P := (fun a b => a = b)) (fun _ => rfl) hk hI
theorem lw_293 (X : Scr) {k18 : Int32 → Sto → Option (Int32 × Sto)} {v3 : Int32} (hk : ∀ σ', g_In σ' → ∃ τ, k18 (v3 + 5) σ' = some (1, τ)) (i1 : inb (v3 + (1 : Int32)) X.1 = true) (i2 : inb (v3 + (2 : Int32)) X.1 = true) {σ : Sto} (hI : g_In σ) : ∃ τ, fL_law_b293 k18 X v3 σ = some (1, τ) := by
  unfold fL_law_b293 fL_law_b1055
  simp only [i1, i2, if_true]
  exact lb (ok_he _ _) (P := (fun a b => a = b)) (fun _ => rfl) hk hI
theorem lw_326 (X : Scr) {k18 : Int32 → Sto → Option (Int32 × Sto)} {v3 : Int32} (hk : ∀ σ', g_In σ' → ∃ τ, k18 (v3 + 5) σ' = some (1, τ)) (i1 : inb (v3 + (1 : Int32)) X.1 = true) {σ : Sto} (hI : g_In σ) : ∃ τ, fL_law_b326 k18 X v3 σ = some (1, τ) := by
  unfold fL_law_b326 fL_law_b1055
  simp only [i1, if_true]
  exact lb (ok_stroke _) (P := (fun a b => a = b)) (fun _ => rfl) hk hI
theorem lw_349 (X : Scr) {k18 : Int32 → Sto → Option (Int32 × Sto)} {v3 : Int32} (hk : ∀ σ', g_In σ' → ∃ τ, k18 (v3 + 5) σ' = some (1, τ)) (i1 : inb (v3 + (1 : Int32)) X.1 = true) (i2 : inb (v3 + (2 : Int32)) X.1 = true) {σ : Sto} (hI : g_In σ) : ∃ τ, fL_law_b349 k18 X v3 σ = some (1, τ) := by
  unfold fL_law_b349 fL_law_b1055
  simp only [i1, i2, if_true]
  exact lb (ok_far _ _) (P := (fun a b => a = b)) (fun _ => rfl) hk hI
theorem lw_382 (X : Scr) {k18 : Int32 → Sto → Option (Int32 × Sto)} {v3 : Int32} (hk : ∀ σ', g_In σ' → ∃ τ, k18 (v3 + 5) σ' = some (1, τ))  {σ : Sto} (hI : g_In σ) : ∃ τ, fL_law_b382 k18 X v3 σ = some (1, τ) := by
  unfold fL_law_b382 fL_law_b1055
  exact lb (ok_say ) (P := (fun a b => a = b)) (fun _ => rfl) hk hI
theorem lw_395 (X : Scr) {k18 : Int32 → Sto → Option (Int32 × Sto)} {v3 : Int32} (hk : ∀ σ', g_In σ' → ∃ τ, k18 (v3 + 5) σ' = some (1, τ)) (i1 : inb (v3 + (1 : Int32)) X.1 = true) (i2 : inb (v3 + (2 : Int32)) X.1 = true) {σ : Sto} (hI : g_In σ) : ∃ τ, fL_law_b395 k18 X v3 σ = some (1, τ) := by
  unfold fL_law_b395 fL_law_b1055
  simp only [i1, i2, if_true]
  exact lb (ok_word _ _) (P := (fun a b => a = b)) (fun _ => rfl) hk hI
theorem lw_428 (X : Scr) {k18 : Int32 → Sto → Option (Int32 × Sto)} {v3 : Int32} (hk : ∀ σ', g_In σ' → ∃ τ, k18 (v3 + 5) σ' = some (1, τ)) (i1 : inb (v3 + (1 : Int32)) X.1 = true) (i2 : inb (v3 + (2 : Int32)) X.1 = true) {σ : Sto} (hI : g_In σ) : ∃ τ, fL_law_b428 k18 X v3 σ = some (1, τ) := by
  unfold fL_law_b428 fL_law_b1055
  simp only [i1, i2, if_true]
  exact lb (ok_behind _ _) (P := (fun a b => a = b)) (fun _ => rfl) hk hI
theorem lw_461 (X : Scr) {k18 : Int32 → Sto → Option (Int32 × Sto)} {v3 : Int32} (hk : ∀ σ', g_In σ' → ∃ τ, k18 (v3 + 5) σ' = some (1, τ)) (i1 : inb (v3 + (1 : Int32)) X.1 = true) (i2 : inb (v3 + (2 : Int32)) X.1 = true) (i3 : inb (v3 + (3 : Int32)) X.1 = true) {σ : Sto} (hI : g_In σ) : ∃ τ, fL_law_b461 k18 X v3 σ = some (1, τ) := by
  unfold fL_law_b461 fL_law_b1055
  simp only [i1, i2, i3, if_true]
  exact lb (ok_reads _ _ _) (P := (fun a b => a = b)) (fun _ => rfl) hk hI
theorem lw_504 (X : Scr) {k18 : Int32 → Sto → Option (Int32 × Sto)} {v3 : Int32} (hk : ∀ σ', g_In σ' → ∃ τ, k18 (v3 + 5) σ' = some (1, τ)) (i1 : inb (v3 + (1 : Int32)) X.1 = true) {σ : Sto} (hI : g_In σ) : ∃ τ, fL_law_b504 k18 X v3 σ = some (1, τ) := by
  unfold fL_law_b504 fL_law_b1055
  simp only [i1, if_true]
  exact lb (ok_follow _) (P := (fun a b => a = b)) (fun _ => rfl) hk hI
theorem lw_527 (X : Scr) {k18 : Int32 → Sto → Option (Int32 × Sto)} {v3 : Int32} (hk : ∀ σ', g_In σ' → ∃ τ, k18 (v3 + 5) σ' = some (1, τ)) (i1 : inb (v3 + (1 : Int32)) X.1 = true) (i2 : inb (v3 + (2 : Int32)) X.1 = true) {σ : Sto} (hI : g_In σ) : ∃ τ, fL_law_b527 k18 X v3 σ = some (1, τ) := by
  unfold fL_law_b527 fL_law_b1055
  simp only [i1, i2, if_true]
  exact lb (ok_mean _ _) (P := (fun a b => lg_cmp a b = 0)) (fun a => cmp_self a) hk hI
theorem lw_561 (X : Scr) {k18 : Int32 → Sto → Option (Int32 × Sto)} {v3 : Int32} (hk : ∀ σ', g_In σ' → ∃ τ, k18 (v3 + 5) σ' = some (1, τ)) (i1 : inb (v3 + (1 : Int32)) X.1 = true) {σ : Sto} (hI : g_In σ) : ∃ τ, fL_law_b561 k18 X v3 σ = some (1, τ) := by
  unfold fL_law_b561 fL_law_b1055
  simp only [i1, if_true]
  exact lb (ok_hardest _) (P := (fun a b => a = b)) (fun _ => rfl) hk hI
theorem lw_584 (X : Scr) {k18 : Int32 → Sto → Option (Int32 × Sto)} {v3 : Int32} (hk : ∀ σ', g_In σ' → ∃ τ, k18 (v3 + 5) σ' = some (1, τ)) (i1 : inb (v3 + (1 : Int32)) X.1 = true) (i2 : inb (v3 + (2 : Int32)) X.1 = true) {σ : Sto} (hI : g_In σ) : ∃ τ, fL_law_b584 k18 X v3 σ = some (1, τ) := by
  unfold fL_law_b584 fL_law_b1055
  simp only [i1, i2, if_true]
  exact lb (ok_speak _ _) (P := (fun a b => a = b)) (fun _ => rfl) hk hI
theorem lw_617 (X : Scr) {k18 : Int32 → Sto → Option (Int32 × Sto)} {v3 : Int32} (hk : ∀ σ', g_In σ' → ∃ τ, k18 (v3 + 5) σ' = some (1, τ)) (i1 : inb (v3 + (1 : Int32)) X.1 = true) (i2 : inb (v3 + (2 : Int32)) X.1 = true) {σ : Sto} (hI : g_In σ) : ∃ τ, fL_law_b617 k18 X v3 σ = some (1, τ) := by
  unfold fL_law_b617 fL_law_b1055
  simp only [i1, i2, if_true]
  exact lb (ok_saying _ _) (P := (fun a b => a = b)) (fun _ => rfl) hk hI
theorem lw_650 (X : Scr) {k18 : Int32 → Sto → Option (Int32 × Sto)} {v3 : Int32} (hk : ∀ σ', g_In σ' → ∃ τ, k18 (v3 + 5) σ' = some (1, τ))  {σ : Sto} (hI : g_In σ) : ∃ τ, fL_law_b650 k18 X v3 σ = some (1, τ) := by
  unfold fL_law_b650 fL_law_b1055
  exact lb (ok_hush ) (P := (fun a b => a = b)) (fun _ => rfl) hk hI
theorem lw_663 (X : Scr) {k18 : Int32 → Sto → Option (Int32 × Sto)} {v3 : Int32} (hk : ∀ σ', g_In σ' → ∃ τ, k18 (v3 + 5) σ' = some (1, τ)) (i1 : inb (v3 + (1 : Int32)) X.1 = true) {σ : Sto} (hI : g_In σ) : ∃ τ, fL_law_b663 k18 X v3 σ = some (1, τ) := by
  unfold fL_law_b663 fL_law_b1055
  simp only [i1, if_true]
  exact lb (ok_may _) (P := (fun a b => a = b)) (fun _ => rfl) hk hI
theorem lw_686 (X : Scr) {k18 : Int32 → Sto → Option (Int32 × Sto)} {v3 : Int32} (hk : ∀ σ', g_In σ' → ∃ τ, k18 (v3 + 5) σ' = some (1, τ))  {σ : Sto} (hI : g_In σ) : ∃ τ, fL_law_b686 k18 X v3 σ = some (1, τ) := by
  unfold fL_law_b686 fL_law_b1055
  exact lb (ok_heMany ) (P := (fun a b => a = b)) (fun _ => rfl) hk hI
theorem lw_699 (X : Scr) {k18 : Int32 → Sto → Option (Int32 × Sto)} {v3 : Int32} (hk : ∀ σ', g_In σ' → ∃ τ, k18 (v3 + 5) σ' = some (1, τ)) (i1 : inb (v3 + (1 : Int32)) X.1 = true) (i2 : inb (v3 + (2 : Int32)) X.1 = true) {σ : Sto} (hI : g_In σ) : ∃ τ, fL_law_b699 k18 X v3 σ = some (1, τ) := by
  unfold fL_law_b699 fL_law_b1055
  simp only [i1, i2, if_true]
  exact lb (ok_odds _ _) (P := (fun a b => lg_cmp a b = 0)) (fun a => cmp_self a) hk hI
theorem lw_733 (X : Scr) {k18 : Int32 → Sto → Option (Int32 × Sto)} {v3 : Int32} (hk : ∀ σ', g_In σ' → ∃ τ, k18 (v3 + 5) σ' = some (1, τ)) (i1 : inb (v3 + (1 : Int32)) X.1 = true) {σ : Sto} (hI : g_In σ) : ∃ τ, fL_law_b733 k18 X v3 σ = some (1, τ) := by
  unfold fL_law_b733 fL_law_b1055
  simp only [i1, if_true]
  exact lb (ok_next _) (P := (fun a b => a = b)) (fun _ => rfl) hk hI
theorem lw_756 (X : Scr) {k18 : Int32 → Sto → Option (Int32 × Sto)} {v3 : Int32} (hk : ∀ σ', g_In σ' → ∃ τ, k18 (v3 + 5) σ' = some (1, τ)) (i1 : inb (v3 + (1 : Int32)) X.1 = true) {σ : Sto} (hI : g_In σ) : ∃ τ, fL_law_b756 k18 X v3 σ = some (1, τ) := by
  unfold fL_law_b756 fL_law_b1055
  simp only [i1, if_true]
  exact lb (ok_strip _) (P := (fun a b => a = b)) (fun _ => rfl) hk hI
theorem lw_779 (X : Scr) {k18 : Int32 → Sto → Option (Int32 × Sto)} {v3 : Int32} (hk : ∀ σ', g_In σ' → ∃ τ, k18 (v3 + 5) σ' = some (1, τ))  {σ : Sto} (hI : g_In σ) : ∃ τ, fL_law_b779 k18 X v3 σ = some (1, τ) := by
  unfold fL_law_b779 fL_law_b1055
  exact lb (ok_bestStrip ) (P := (fun a b => a = b)) (fun _ => rfl) hk hI
theorem lw_792 (X : Scr) {k18 : Int32 → Sto → Option (Int32 × Sto)} {v3 : Int32} (hk : ∀ σ', g_In σ' → ∃ τ, k18 (v3 + 5) σ' = some (1, τ)) (i1 : inb (v3 + (1 : Int32)) X.1 = true) {σ : Sto} (hI : g_In σ) : ∃ τ, fL_law_b792 k18 X v3 σ = some (1, τ) := by
  unfold fL_law_b792 fL_law_b1055
  simp only [i1, if_true]
  exact lb (ok_fewest _) (P := (fun a b => a = b)) (fun _ => rfl) hk hI
theorem lw_815 (X : Scr) {k18 : Int32 → Sto → Option (Int32 × Sto)} {v3 : Int32} (hk : ∀ σ', g_In σ' → ∃ τ, k18 (v3 + 5) σ' = some (1, τ)) (i1 : inb (v3 + (1 : Int32)) X.1 = true) (i2 : inb (v3 + (2 : Int32)) X.1 = true) {σ : Sto} (hI : g_In σ) : ∃ τ, fL_law_b815 k18 X v3 σ = some (1, τ) := by
  unfold fL_law_b815 fL_law_b1055
  simp only [i1, i2, if_true]
  exact lb (ok_bears _ _) (P := (fun a b => a = b)) (fun _ => rfl) hk hI
theorem lw_848 (X : Scr) {k18 : Int32 → Sto → Option (Int32 × Sto)} {v3 : Int32} (hk : ∀ σ', g_In σ' → ∃ τ, k18 (v3 + 5) σ' = some (1, τ)) (i1 : inb (v3 + (1 : Int32)) X.1 = true) (i2 : inb (v3 + (2 : Int32)) X.1 = true) (i3 : inb (v3 + (3 : Int32)) X.1 = true) (i4 : inb (v3 + (4 : Int32)) X.1 = true) {σ : Sto} (hI : g_In σ) : ∃ τ, fL_law_b848 k18 X v3 σ = some (1, τ) := by
  unfold fL_law_b848 fL_law_b1055
  simp only [i1, i2, i3, i4, if_true]
  exact lb (ok_grid _ _ _ _) (P := (fun a b => a = b)) (fun _ => rfl) hk hI
theorem lw_901 (X : Scr) {k18 : Int32 → Sto → Option (Int32 × Sto)} {v3 : Int32} (hk : ∀ σ', g_In σ' → ∃ τ, k18 (v3 + 5) σ' = some (1, τ))  {σ : Sto} (hI : g_In σ) : ∃ τ, fL_law_b901 k18 X v3 σ = some (1, τ) := by
  unfold fL_law_b901 fL_law_b1055
  exact lb (ok_taught ) (P := (fun a b => a = b)) (fun _ => rfl) hk hI
theorem lw_914 (X : Scr) {k18 : Int32 → Sto → Option (Int32 × Sto)} {v3 : Int32} (hk : ∀ σ', g_In σ' → ∃ τ, k18 (v3 + 5) σ' = some (1, τ)) (i1 : inb (v3 + (1 : Int32)) X.1 = true) {σ : Sto} (hI : g_In σ) : ∃ τ, fL_law_b914 k18 X v3 σ = some (1, τ) := by
  unfold fL_law_b914 fL_law_b1055
  simp only [i1, if_true]
  exact lb (ok_row _) (P := (fun a b => a = b)) (fun _ => rfl) hk hI
theorem lw_937 (X : Scr) {k18 : Int32 → Sto → Option (Int32 × Sto)} {v3 : Int32} (hk : ∀ σ', g_In σ' → ∃ τ, k18 (v3 + 5) σ' = some (1, τ))  {σ : Sto} (hI : g_In σ) : ∃ τ, fL_law_b937 k18 X v3 σ = some (1, τ) := by
  unfold fL_law_b937 fL_law_b1055
  exact lb (ok_kinds ) (P := (fun a b => a = b)) (fun _ => rfl) hk hI
theorem lw_950 (X : Scr) {k18 : Int32 → Sto → Option (Int32 × Sto)} {v3 : Int32} (hk : ∀ σ', g_In σ' → ∃ τ, k18 (v3 + 5) σ' = some (1, τ))  {σ : Sto} (hI : g_In σ) : ∃ τ, fL_law_b950 k18 X v3 σ = some (1, τ) := by
  unfold fL_law_b950 fL_law_b1055
  exact lb (ok_judge ) (P := (fun a b => a = b)) (fun _ => rfl) hk hI
theorem lw_963 (X : Scr) {k18 : Int32 → Sto → Option (Int32 × Sto)} {v3 : Int32} (hk : ∀ σ', g_In σ' → ∃ τ, k18 (v3 + 5) σ' = some (1, τ)) (i1 : inb (v3 + (1 : Int32)) X.1 = true) (i2 : inb (v3 + (2 : Int32)) X.1 = true) (i3 : inb (v3 + (3 : Int32)) X.1 = true) {σ : Sto} (hI : g_In σ) : ∃ τ, fL_law_b963 k18 X v3 σ = some (1, τ) := by
  unfold fL_law_b963 fL_law_b1055
  simp only [i1, i2, i3, if_true]
  exact lb (ok_evenings _ _ _) (P := (fun a b => a = b)) (fun _ => rfl) hk hI
theorem lw_1006 (X : Scr) {k18 : Int32 → Sto → Option (Int32 × Sto)} {v3 : Int32} (hk : ∀ σ', g_In σ' → ∃ τ, k18 (v3 + 5) σ' = some (1, τ))  {σ : Sto} (hI : g_In σ) : ∃ τ, fL_law_b1006 k18 X v3 σ = some (1, τ) := by
  unfold fL_law_b1006 fL_law_b1055
  exact lb (ok_image ) (P := (fun a b => a = b)) (fun _ => rfl) hk hI
theorem lw_1019 (X : Scr) {k18 : Int32 → Sto → Option (Int32 × Sto)} {v3 : Int32} (hk : ∀ σ', g_In σ' → ∃ τ, k18 (v3 + 5) σ' = some (1, τ))  {σ : Sto} (hI : g_In σ) : ∃ τ, fL_law_b1019 k18 X v3 σ = some (1, τ) := by
  unfold fL_law_b1019 fL_law_b1055
  exact lb (ok_on ) (P := (fun a b => a = b)) (fun _ => rfl) hk hI
theorem lw_1032 (X : Scr) {k18 : Int32 → Sto → Option (Int32 × Sto)} {v3 : Int32} (hk : ∀ σ', g_In σ' → ∃ τ, k18 (v3 + 5) σ' = some (1, τ)) (i1 : inb (v3 + (1 : Int32)) X.1 = true) {σ : Sto} (hI : g_In σ) : ∃ τ, fL_law_b1032 k18 X v3 σ = some (1, τ) := by
  unfold fL_law_b1032 fL_law_b1055
  simp only [i1, if_true]
  exact lb (ok_count _) (P := (fun a b => a = b)) (fun _ => rfl) hk hI
theorem n5 : ∀ n, n < 5 → nI n - 5 < 0 := by decide
theorem law_l (X : Scr) (hX : X.1 ≤ 2560) : ∀ n i σ, g_In σ → X.1 < 5 * (i + n) → 5 * i ≤ X.1 → ∃ τ, fL_law_l18 X n (nI (5 * i)) σ = some (1, τ) := by
  intro n
  induction n with
  | zero =>
    intro i σ hI h1 h2
    omega
  | succ n ih =>
    intro i σ hI h1 h2
    by_cases h5 : X.1 < 5 * i + 5
    · refine ⟨σ, ?_⟩
      have hlt : Int32.ofNat X.1 - 5 < nI (5 * i) := by
        have e : Int32.ofNat X.1 = nI X.1 := rfl
        rw [e]
        by_cases h : X.1 < 5
        · have h0 := n5 X.1 h
          have h3 := nI_pos' (n := 5 * i) (by omega)
          grind
        · have z : (5 : Int32) = nI 5 := rfl
          rw [z, nI_sub (by omega)]
          exact nI_lt (by omega) (by omega)
      rw [fL_law_l18, if_pos hlt]
    · have hnl : ¬ Int32.ofNat X.1 - 5 < nI (5 * i) := by
        have e : Int32.ofNat X.1 = nI X.1 := rfl
        have z : (5 : Int32) = nI 5 := rfl
        rw [e, z, nI_sub (by omega)]
        exact nI_nlt (by omega) (by omega)
      have i0 : inb (nI (5 * i)) X.1 = true := inb_nI (by omega) (by omega)
      have ad : ∀ c : Nat, nI (5 * i) + nI c = nI (5 * i + c) := fun c => nI_add _ _
      have i1 : inb (nI (5 * i) + 1) X.1 = true := by
        rw [show (1 : Int32) = nI 1 from rfl, ad]
        exact inb_nI (by omega) (by omega)
      have i2 : inb (nI (5 * i) + 2) X.1 = true := by
        rw [show (2 : Int32) = nI 2 from rfl, ad]
        exact inb_nI (by omega) (by omega)
      have i3 : inb (nI (5 * i) + 3) X.1 = true := by
        rw [show (3 : Int32) = nI 3 from rfl, ad]
        exact inb_nI (by omega) (by omega)
      have i4 : inb (nI (5 * i) + 4) X.1 = true := by
        rw [show (4 : Int32) = nI 4 from rfl, ad]
        exact inb_nI (by omega) (by omega)
      have hk : ∀ σ', g_In σ' → ∃ τ, (fun a0 s => fL_law_l18 X n a0 s) (nI (5 * i) + 5) σ' = some (1, τ) := by
        intro σ' h'
        have e : nI (5 * i) + 5 = nI (5 * (i + 1)) := by
          rw [show (5 : Int32) = nI 5 from rfl, ad]
          rfl
        show ∃ τ, fL_law_l18 X n (nI (5 * i) + 5) σ' = some (1, τ)
        rw [e]
        exact ih (i + 1) σ' h' (by omega) (by omega)
      rw [fL_law_l18, if_neg hnl, if_pos i0]
      by_cases c0 : (X.2 (nI (5 * i)).toNatClampNeg) &&& (63 : Int32) = 0
      · rw [if_pos c0]
        exact lw_188 X hk i1 hI
      rw [if_neg c0]
      by_cases c1 : (X.2 (nI (5 * i)).toNatClampNeg) &&& (63 : Int32) = 1
      · rw [if_pos c1]
        exact lw_211 X hk  hI
      rw [if_neg c1]
      by_cases c2 : (X.2 (nI (5 * i)).toNatClampNeg) &&& (63 : Int32) = 2
      · rw [if_pos c2]
        exact lw_224 X hk i1 hI
      rw [if_neg c2]
      by_cases c3 : (X.2 (nI (5 * i)).toNatClampNeg) &&& (63 : Int32) = 3
      · rw [if_pos c3]
        exact lw_247 X hk i1 hI
      rw [if_neg c3]
      by_cases c4 : (X.2 (nI (5 * i)).toNatClampNeg) &&& (63 : Int32) = 4
      · rw [if_pos c4]
        exact lw_270 X hk i1 hI
      rw [if_neg c4]
      by_cases c5 : (X.2 (nI (5 * i)).toNatClampNeg) &&& (63 : Int32) = 5
      · rw [if_pos c5]
        exact lw_293 X hk i1 i2 hI
      rw [if_neg c5]
      by_cases c6 : (X.2 (nI (5 * i)).toNatClampNeg) &&& (63 : Int32) = 6
      · rw [if_pos c6]
        exact lw_326 X hk i1 hI
      rw [if_neg c6]
      by_cases c7 : (X.2 (nI (5 * i)).toNatClampNeg) &&& (63 : Int32) = 7
      · rw [if_pos c7]
        exact lw_349 X hk i1 i2 hI
      rw [if_neg c7]
      by_cases c8 : (X.2 (nI (5 * i)).toNatClampNeg) &&& (63 : Int32) = 8
      · rw [if_pos c8]
        exact lw_382 X hk  hI
      rw [if_neg c8]
      by_cases c9 : (X.2 (nI (5 * i)).toNatClampNeg) &&& (63 : Int32) = 9
      · rw [if_pos c9]
        exact lw_395 X hk i1 i2 hI
      rw [if_neg c9]
      by_cases c10 : (X.2 (nI (5 * i)).toNatClampNeg) &&& (63 : Int32) = 10
      · rw [if_pos c10]
        exact lw_428 X hk i1 i2 hI
      rw [if_neg c10]
      by_cases c11 : (X.2 (nI (5 * i)).toNatClampNeg) &&& (63 : Int32) = 11
      · rw [if_pos c11]
        exact lw_461 X hk i1 i2 i3 hI
      rw [if_neg c11]
      by_cases c12 : (X.2 (nI (5 * i)).toNatClampNeg) &&& (63 : Int32) = 12
      · rw [if_pos c12]
        exact lw_504 X hk i1 hI
      rw [if_neg c12]
      by_cases c13 : (X.2 (nI (5 * i)).toNatClampNeg) &&& (63 : Int32) = 13
      · rw [if_pos c13]
        exact lw_527 X hk i1 i2 hI
      rw [if_neg c13]
      by_cases c14 : (X.2 (nI (5 * i)).toNatClampNeg) &&& (63 : Int32) = 14
      · rw [if_pos c14]
        exact lw_561 X hk i1 hI
      rw [if_neg c14]
      by_cases c15 : (X.2 (nI (5 * i)).toNatClampNeg) &&& (63 : Int32) = 15
      · rw [if_pos c15]
        exact lw_584 X hk i1 i2 hI
      rw [if_neg c15]
      by_cases c16 : (X.2 (nI (5 * i)).toNatClampNeg) &&& (63 : Int32) = 16
      · rw [if_pos c16]
        exact lw_617 X hk i1 i2 hI
      rw [if_neg c16]
      by_cases c17 : (X.2 (nI (5 * i)).toNatClampNeg) &&& (63 : Int32) = 17
      · rw [if_pos c17]
        exact lw_650 X hk  hI
      rw [if_neg c17]
      by_cases c18 : (X.2 (nI (5 * i)).toNatClampNeg) &&& (63 : Int32) = 18
      · rw [if_pos c18]
        exact lw_663 X hk i1 hI
      rw [if_neg c18]
      by_cases c19 : (X.2 (nI (5 * i)).toNatClampNeg) &&& (63 : Int32) = 19
      · rw [if_pos c19]
        exact lw_686 X hk  hI
      rw [if_neg c19]
      by_cases c20 : (X.2 (nI (5 * i)).toNatClampNeg) &&& (63 : Int32) = 20
      · rw [if_pos c20]
        exact lw_699 X hk i1 i2 hI
      rw [if_neg c20]
      by_cases c21 : (X.2 (nI (5 * i)).toNatClampNeg) &&& (63 : Int32) = 21
      · rw [if_pos c21]
        exact lw_733 X hk i1 hI
      rw [if_neg c21]
      by_cases c22 : (X.2 (nI (5 * i)).toNatClampNeg) &&& (63 : Int32) = 22
      · rw [if_pos c22]
        exact lw_756 X hk i1 hI
      rw [if_neg c22]
      by_cases c23 : (X.2 (nI (5 * i)).toNatClampNeg) &&& (63 : Int32) = 23
      · rw [if_pos c23]
        exact lw_779 X hk  hI
      rw [if_neg c23]
      by_cases c24 : (X.2 (nI (5 * i)).toNatClampNeg) &&& (63 : Int32) = 24
      · rw [if_pos c24]
        exact lw_792 X hk i1 hI
      rw [if_neg c24]
      by_cases c25 : (X.2 (nI (5 * i)).toNatClampNeg) &&& (63 : Int32) = 25
      · rw [if_pos c25]
        exact lw_815 X hk i1 i2 hI
      rw [if_neg c25]
      by_cases c26 : (X.2 (nI (5 * i)).toNatClampNeg) &&& (63 : Int32) = 26
      · rw [if_pos c26]
        exact lw_848 X hk i1 i2 i3 i4 hI
      rw [if_neg c26]
      by_cases c27 : (X.2 (nI (5 * i)).toNatClampNeg) &&& (63 : Int32) = 27
      · rw [if_pos c27]
        exact lw_901 X hk  hI
      rw [if_neg c27]
      by_cases c28 : (X.2 (nI (5 * i)).toNatClampNeg) &&& (63 : Int32) = 28
      · rw [if_pos c28]
        exact lw_914 X hk i1 hI
      rw [if_neg c28]
      by_cases c29 : (X.2 (nI (5 * i)).toNatClampNeg) &&& (63 : Int32) = 29
      · rw [if_pos c29]
        exact lw_937 X hk  hI
      rw [if_neg c29]
      by_cases c30 : (X.2 (nI (5 * i)).toNatClampNeg) &&& (63 : Int32) = 30
      · rw [if_pos c30]
        exact lw_950 X hk  hI
      rw [if_neg c30]
      by_cases c31 : (X.2 (nI (5 * i)).toNatClampNeg) &&& (63 : Int32) = 31
      · rw [if_pos c31]
        exact lw_963 X hk i1 i2 i3 hI
      rw [if_neg c31]
      by_cases c32 : (X.2 (nI (5 * i)).toNatClampNeg) &&& (63 : Int32) = 32
      · rw [if_pos c32]
        exact lw_1006 X hk  hI
      rw [if_neg c32]
      by_cases c33 : (X.2 (nI (5 * i)).toNatClampNeg) &&& (63 : Int32) = 33
      · rw [if_pos c33]
        exact lw_1019 X hk  hI
      rw [if_neg c33]
      by_cases c34 : (X.2 (nI (5 * i)).toNatClampNeg) &&& (63 : Int32) = 34
      · rw [if_pos c34]
        exact lw_1032 X hk i1 hI
      rw [if_neg c34]
      unfold fL_law_b1055
      exact hk σ hI
theorem sg_b (k : Nat) (hk : k = 1 ∨ k = 3 ∨ k = 5 ∨ k = 7) : okB (sg0 k, sg0 (k + 1)) := by
  have e1 : ∀ j, sg0 k j = if j = 6 then 1 else if j = 7 then 3 else 0 := by
    intro j
    unfold sg0
    rw [if_pos hk]
  have e2 : sg0 (k + 1) = zf := sg0_z _ (by omega)
  refine ⟨⟨?_, fun j hj => ?_, fun j hj => ?_⟩, ?_, ?_, ?_, ?_, ?_, ?_, ?_, fun j => ?_⟩
  · show sg0 k 0 = 0
    rw [e1]
    rfl
  · show sg0 k j = 0
    rw [e1, if_neg (by omega), if_neg (by omega)]
  · show sg0 (k + 1) j = 0
    rw [e2]
  · show 0 ≤ sg0 k 1 ∧ sg0 k 1 ≤ 5
    rw [e1]
    decide
  · show 0 ≤ sg0 k 2 ∧ sg0 k 2 ≤ 24
    rw [e1]
    decide
  · show 0 ≤ sg0 k 3 ∧ sg0 k 3 ≤ 23
    rw [e1]
    decide
  · show 0 ≤ sg0 k 5 ∧ sg0 k 5 ≤ 1
    rw [e1]
    decide
  · show 1 ≤ sg0 k 6 ∧ sg0 k 6 ≤ 3
    rw [e1]
    decide
  · show 2 ≤ sg0 k 7 ∧ sg0 k 7 ≤ 5
    rw [e1]
    decide
  · show 0 ≤ sg0 k 8 ∧ sg0 k 8 ≤ 5
    rw [e1]
    decide
  · show 0 ≤ sg0 (k + 1) j ∧ sg0 (k + 1) j ≤ 9
    rw [e2]
    show 0 ≤ (0 : Int32) ∧ (0 : Int32) ≤ 9
    decide
theorem sg_t (k : Nat) (hk : k = 1 ∨ k = 3 ∨ k = 5 ∨ k = 7) : g_tm (sg0 k, sg0 (k + 1)) := by
  have e1 : sg0 k 4 = 0 := by
    unfold sg0
    rw [if_pos hk]
    rfl
  show 0 ≤ sg0 k 4 ∧ sg0 k 4 ≤ 999
  rw [e1]
  decide
theorem sg_0 (k j : Nat) (hk : ¬ (k = 1 ∨ k = 3 ∨ k = 5 ∨ k = 7)) (h20 : k ≠ 20) : sg0 k j = 0 := by
  unfold sg0
  rw [if_neg hk, if_neg h20]
theorem sg_f (k l : Nat) (hk : ¬ (k = 1 ∨ k = 3 ∨ k = 5 ∨ k = 7)) (h20 : k ≠ 20) (hl : ¬ (l = 1 ∨ l = 3 ∨ l = 5 ∨ l = 7)) (l20 : l ≠ 20) : sg0 k = sg0 l := by
  funext j
  rw [sg_0 k j hk h20, sg_0 l j hl l20]
theorem sg_1 (j : Nat) : sg0 1 j = if j = 6 then 1 else if j = 7 then 3 else 0 := by
  unfold sg0
  rw [if_pos (Or.inl rfl)]
theorem In_sg0 : g_In sg0 := by
  refine ⟨sg_b 1 (by decide), sg_t 1 (by decide), ?_, ⟨sg_b 5 (by decide), sg_b 7 (by decide)⟩, ⟨sg_b 3 (by decide), sg_t 3 (by decide), Or.inl ⟨sg_0 0 10 (by decide) (by decide), sg_0 17 15 (by decide) (by decide)⟩⟩, sg_f 18 16 (by decide) (by decide) (by decide) (by decide), ?_, ?_, ?_⟩
  · unfold g_Mf
    rw [sg0_he, sg_1, sg_1, sg_1, sg_1, sg_1, sg_1, sg_1, sg_1, sg_0 17 3 (by decide) (by decide), sg_0 17 4 (by decide) (by decide), sg_0 17 5 (by decide) (by decide), sg_0 17 6 (by decide) (by decide), sg_f 19 2 (by decide) (by decide) (by decide) (by decide)]
    exact ⟨rfl, rfl, rfl, rfl, rfl, rfl, rfl, rfl, rfl⟩
  · refine ⟨by rw [sg_0 17 11 (by decide) (by decide), sg_0 9 1 (by decide) (by decide)], ?_, sg_f 21 10 (by decide) (by decide) (by decide) (by decide), fun j => ?_⟩
    · rw [sg_0 9 1 (by decide) (by decide)]
      decide
    · rw [sg_0 10 j (by decide) (by decide)]
      decide
  · refine ⟨by rw [sg_0 17 23 (by decide) (by decide), sg_0 11 2 (by decide) (by decide)], ?_, sg_f 26 12 (by decide) (by decide) (by decide) (by decide), sg_f 27 13 (by decide) (by decide) (by decide) (by decide), fun j => ?_, fun j => ?_⟩
    · rw [sg_0 11 2 (by decide) (by decide)]
      decide
    · rw [sg_0 12 j (by decide) (by decide)]
      decide
    · rw [sg_0 13 j (by decide) (by decide)]
      decide
  · refine ⟨by rw [sg_0 17 25 (by decide) (by decide), sg_0 0 9 (by decide) (by decide)], ?_, sg_f 29 14 (by decide) (by decide) (by decide) (by decide)⟩
    rw [sg_0 0 9 (by decide) (by decide)]
    decide
theorem hpure : ∀ X : Scr, X.1 ≤ 2560 → ∃ τ : Sto, fL_law_e X sg0 = some (1, τ) := by
  intro X hX
  have e := law_l X hX 600 0 sg0 In_sg0 (by omega) (by omega)
  exact e

