/-! the pure part, 2: the reference's strokes, on its own cells -/
def putM (τ : Sto) (B : BS) : Sto := fun a j => if a = 17 then (if j = 3 then B.1 1 else if j = 4 then B.1 2 else if j = 5 then B.1 3 else if j = 6 then B.1 4 else τ 17 j) else if a = 19 then B.2 j else if a = 20 then (if j = 0 then B.1 5 else if j = 1 then B.1 6 else if j = 2 then B.1 7 else if j = 3 then B.1 8 else τ 20 j) else τ a j
section PutM
variable (τ : Sto) (B : BS)
theorem putM_3 : putM τ B 17 3 = B.1 1 := by simp [putM]
theorem putM_4 : putM τ B 17 4 = B.1 2 := by simp [putM]
theorem putM_5 : putM τ B 17 5 = B.1 3 := by simp [putM]
theorem putM_6 : putM τ B 17 6 = B.1 4 := by simp [putM]
theorem putM_19 : putM τ B 19 = B.2 := by funext j; simp [putM]
theorem putM_h0 : putM τ B 20 0 = B.1 5 := by simp [putM]
theorem putM_h1 : putM τ B 20 1 = B.1 6 := by simp [putM]
theorem putM_h2 : putM τ B 20 2 = B.1 7 := by simp [putM]
theorem putM_h3 : putM τ B 20 3 = B.1 8 := by simp [putM]
theorem putM_17 {j : Nat} (h : j ≠ 3 ∧ j ≠ 4 ∧ j ≠ 5 ∧ j ≠ 6) : putM τ B 17 j = τ 17 j := by simp [putM, h]
theorem putM_ne {a : Nat} (h : a ≠ 17 ∧ a ≠ 19 ∧ a ≠ 20) : putM τ B a = τ a := by funext j; simp [putM, h]
theorem putM_u3 (x : Int32) : upS (putM τ B) 17 3 x = putM τ (upd B.1 1 x, B.2) := by
  funext a j
  by_cases h : a = 17
  · subst h
    simp only [putM, upS, upd, if_true]
    grind
  · simp [putM, upS, upd, h]
theorem putM_u4 (x : Int32) : upS (putM τ B) 17 4 x = putM τ (upd B.1 2 x, B.2) := by
  funext a j
  by_cases h : a = 17
  · subst h
    simp only [putM, upS, upd, if_true]
    grind
  · simp [putM, upS, upd, h]
theorem putM_u5 (x : Int32) : upS (putM τ B) 17 5 x = putM τ (upd B.1 3 x, B.2) := by
  funext a j
  by_cases h : a = 17
  · subst h
    simp only [putM, upS, upd, if_true]
    grind
  · simp [putM, upS, upd, h]
theorem putM_u6 (x : Int32) : upS (putM τ B) 17 6 x = putM τ (upd B.1 4 x, B.2) := by
  funext a j
  by_cases h : a = 17
  · subst h
    simp only [putM, upS, upd, if_true]
    grind
  · simp [putM, upS, upd, h]
theorem putM_u19 (i : Nat) (x : Int32) : upS (putM τ B) 19 i x = putM τ (B.1, upd B.2 i x) := by
  funext a j
  by_cases h : a = 19
  · subst h
    simp [putM, upS, upd]
  · simp [putM, upS, h]
theorem putM_uh0 (x : Int32) : upS (putM τ B) 20 0 x = putM τ (upd B.1 5 x, B.2) := by
  funext a j
  by_cases h : a = 20
  · subst h
    simp only [putM, upS, upd, if_true]
    grind
  · simp [putM, upS, upd, h]
theorem putM_uh1 (x : Int32) : upS (putM τ B) 20 1 x = putM τ (upd B.1 6 x, B.2) := by
  funext a j
  by_cases h : a = 20
  · subst h
    simp only [putM, upS, upd, if_true]
    grind
  · simp [putM, upS, upd, h]
theorem putM_uh2 (x : Int32) : upS (putM τ B) 20 2 x = putM τ (upd B.1 7 x, B.2) := by
  funext a j
  by_cases h : a = 20
  · subst h
    simp only [putM, upS, upd, if_true]
    grind
  · simp [putM, upS, upd, h]
theorem putM_uh3 (x : Int32) : upS (putM τ B) 20 3 x = putM τ (upd B.1 8 x, B.2) := by
  funext a j
  by_cases h : a = 20
  · subst h
    simp only [putM, upS, upd, if_true]
    grind
  · simp [putM, upS, upd, h]
end PutM
theorem isIn_in {v a b : Int32} (σ : Sto) (h0 : a ≤ v) (h1 : v ≤ b) : fX4_isIn v a b σ = some (1, σ) := by
  unfold fX4_isIn fX4_isIn_e chkZ
  grind
theorem isIn_out {v a b : Int32} (σ : Sto) (h : ¬ (a ≤ v ∧ v ≤ b)) : fX4_isIn v a b σ = some (0, σ) := by
  unfold fX4_isIn fX4_isIn_e chkZ
  grind
theorem isIn_eq (v a b : Int32) (σ : Sto) : fX4_isIn v a b σ = some (if a ≤ v ∧ v ≤ b then 1 else 0, σ) := by
  unfold fX4_isIn fX4_isIn_e chkZ
  grind
theorem isCell_in {v : Int32} (σ : Sto) (h0 : 0 ≤ v) (h1 : v ≤ 23) : fX4_isCell v σ = some (1, σ) := by
  unfold fX4_isCell fX4_isCell_e chkZ
  grind
theorem isCell_out {v : Int32} (σ : Sto) (h : ¬ (0 ≤ v ∧ v ≤ 23)) : fX4_isCell v σ = some (0, σ) := by
  unfold fX4_isCell fX4_isCell_e chkZ
  grind
def qApart (a b : Int32) : Int32 := if b ≤ a then a - b else b - a
theorem apart_eq (a b : Int32) (σ : Sto) : fX4_apart a b σ = some (qApart a b, σ) := by
  unfold fX4_apart qApart
  grind
def qPlain (p h : Int32) : Int32 := if p / 6 = h / 6 then (if qApart p h = 1 then (if p ≤ h then (if 0 ≤ irm p 6 + -1 ∧ irm p 6 + -1 ≤ 5 then p + -1 else p) else (if 0 ≤ irm p 6 + 1 ∧ irm p 6 + 1 ≤ 5 then p + 1 else p)) else p) else p
theorem push {c : Prop} [Decidable c] {α β : Type} {a b : α} {s : β} : (if c then some (a, s) else some (b, s)) = some (if c then a else b, s) := by
  split <;> rfl
theorem ite10 {c : Prop} [Decidable c] : ((if c then (1 : Int32) else 0) = 0) ↔ ¬ c := by
  by_cases h : c <;> simp [h]
theorem plain_eq (τ : Sto) (B : BS) : fX4_plainBeside (putM τ B) = some (qPlain (B.1 2) (B.1 3), putM τ B) := by
  unfold fX4_plainBeside fX4_plainBeside_b53 fX4_plainBeside_b32 qPlain
  simp only [apart_eq, isIn_eq, Option.bind_some, putM_4, putM_5, ite10, ite_not, push]
def pAwayN (p h : Int32) : Int32 := pAway (fun j => if j = 2 then p else h)
theorem away_tab : ∀ n, n < 24 → ∀ m, m < 24 → pAwayN (nI n) (nI m) = qPlain (nI n) (nI m) := by decide +kernel
theorem pAway_N (f : Nat → Int32) : pAway f = pAwayN (f 2) (f 3) := by
  unfold pAwayN pAway pAway2
  simp
theorem away_eq {f : Nat → Int32} (h0 : 0 ≤ f 2) (h1 : f 2 ≤ 23) (g0 : 0 ≤ f 3) (g1 : f 3 ≤ 23) : pAway f = qPlain (f 2) (f 3) := by
  rw [pAway_N]
  obtain ⟨n, hn, e1⟩ := i32_nat 23 23 h0 h1 (by decide)
  obtain ⟨m, hm, e2⟩ := i32_nat 23 23 g0 g1 (by decide)
  rw [e1, e2]
  exact away_tab n (by omega) m (by omega)
theorem creep_tab : ∀ n, n < 24 → ((3 : Int32) ≤ nI n / 6 ↔ (24 : Int32) ≤ nI n + 6) := by decide +kernel
theorem seam_tab : ∀ n, n < 24 → ∀ m, m < 6 → nI n + pCmp (nI m) (irm (nI n) 6) = if nI m ≤ irm (nI n) 6 then (if irm (nI n) 6 ≤ nI m then nI n else nI n - 1) else nI n + 1 := by decide +kernel
/-- what is asked of a Back's numbers -/
def okB (B : BS) : Prop := (B.1 0 = 0 ∧ (∀ j, 9 ≤ j → B.1 j = 0) ∧ (∀ j, 24 ≤ j → B.2 j = 0)) ∧ (0 ≤ B.1 1 ∧ B.1 1 ≤ 5) ∧ (0 ≤ B.1 2 ∧ B.1 2 ≤ 24) ∧ (0 ≤ B.1 3 ∧ B.1 3 ≤ 23) ∧ (0 ≤ B.1 5 ∧ B.1 5 ≤ 1) ∧ (1 ≤ B.1 6 ∧ B.1 6 ≤ 3) ∧ (2 ≤ B.1 7 ∧ B.1 7 ≤ 5) ∧ (0 ≤ B.1 8 ∧ B.1 8 ≤ 5) ∧ ∀ j, 0 ≤ B.2 j ∧ B.2 j ≤ 9
theorem six {x : Int32} (h0 : 0 ≤ x) (h1 : x ≤ 5) : x = 0 ∨ x = 1 ∨ x = 2 ∨ x = 3 ∨ x = 4 ∨ x = 5 := by
  obtain ⟨n, hn, rfl⟩ := i32_nat 5 5 h0 h1 (by decide)
  have : n = 0 ∨ n = 1 ∨ n = 2 ∨ n = 3 ∨ n = 4 ∨ n = 5 := by omega
  rcases this with rfl | rfl | rfl | rfl | rfl | rfl <;> decide
theorem creeps_eq (τ : Sto) (B : BS) (hB : okB B) (hp : B.1 2 ≤ 23) : fX4_creepsBeside (putM τ B) = some (if irm (B.1 4) 3 = 0 then (if 3 ≤ B.1 2 / 6 then pAway B.1 else B.1 2 + 6) else pAway B.1, putM τ B) := by
  obtain ⟨hz, hk, ⟨p0, p1⟩, ⟨h0, h1⟩, hr⟩ := hB
  have ha := away_eq p0 hp h0 h1
  obtain ⟨n, hn, e1⟩ := i32_nat 23 23 p0 hp (by decide)
  have hc := creep_tab n (by omega)
  rw [← e1] at hc
  unfold fX4_creepsBeside fX4_creepsBeside_b31
  simp only [plain_eq, Option.bind_some, putM_4, putM_6, ← ha, ← hc, push]
theorem leaps_eq (τ : Sto) (B : BS) (hB : okB B) (hp : B.1 2 ≤ 23) (hk : B.1 1 = 3) : fX4_leapsBeside (putM τ B) = some (pB103 B.1 B.2 (if irm (B.1 4) 3 = 0 then (if 3 ≤ B.1 2 / 6 then pAway B.1 else B.1 2 + 6) else pAway B.1), putM τ B) := by
  have hcr := creeps_eq τ B hB hp
  obtain ⟨hz, ⟨k0, k1⟩, ⟨p0, p1⟩, ⟨h0, h1⟩, hr⟩ := hB
  have hov := pOver_rng p0 hp
  have hio := inb_of (N := 24) 23 (by decide) hov.1 hov.2
  unfold fX4_leapsBeside
  simp only [hcr, Option.bind_some, putM_4, putM_19]
  unfold pOver at hio
  simp only [hio, if_true, push]
  unfold pB103 pOver
  simp only [hk, if_true]
theorem besideBy_eq (τ : Sto) (B : BS) (hB : okB B) (hp : B.1 2 ≤ 23) : fX4_besideBy (putM τ B) = some (pBeside B.1 B.2, putM τ B) := by
  have hcr := creeps_eq τ B hB hp
  have hlp := leaps_eq τ B hB hp
  obtain ⟨hz, ⟨k0, k1⟩, ⟨p0, p1⟩, ⟨h0, h1⟩, hl, hb, ht, ⟨s0, s1⟩, hs⟩ := hB
  have ha := away_eq p0 hp h0 h1
  have hse : B.1 2 + pCmp (B.1 8) (irm (B.1 2) 6) = if B.1 8 ≤ irm (B.1 2) 6 then (if irm (B.1 2) 6 ≤ B.1 8 then B.1 2 else B.1 2 - 1) else B.1 2 + 1 := by
    obtain ⟨n, hn, e1⟩ := i32_nat 23 23 p0 hp (by decide)
    obtain ⟨m, hm, e2⟩ := i32_nat 5 5 s0 s1 (by decide)
    rw [e1, e2]
    exact seam_tab n (by omega) m (by omega)
  have hi3 : inb 3 4 = true := by decide
  have hc3 : (3 : Int32).toNatClampNeg = 3 := by decide
  unfold fX4_besideBy pBeside
  rcases six k0 k1 with e | e | e | e | e | e
  · simp only [putM_3, e, show ¬ (0 : Int32) = 1 by decide, show ¬ (0 : Int32) = 2 by decide, show ¬ (0 : Int32) = 3 by decide, show ¬ (0 : Int32) = 4 by decide, show ¬ (0 : Int32) = 5 by decide, if_true, if_false, plain_eq, ← ha, Option.bind_some]
    unfold pB103
    simp only [e, show ¬ (0 : Int32) = 3 by decide, if_false]
  · simp only [putM_3, e, show ¬ (1 : Int32) = 0 by decide, show ¬ (1 : Int32) = 2 by decide, show ¬ (1 : Int32) = 3 by decide, show ¬ (1 : Int32) = 4 by decide, show ¬ (1 : Int32) = 5 by decide, if_true, if_false, hcr, Option.bind_some]
    unfold pB103
    simp only [e, show ¬ (1 : Int32) = 3 by decide, if_false]
  · simp only [putM_3, putM_4, e, show ¬ (2 : Int32) = 1 by decide, show ¬ (2 : Int32) = 5 by decide, if_true, if_false]
  · simp only [putM_3, e, show ¬ (3 : Int32) = 1 by decide, show ¬ (3 : Int32) = 0 by decide, show ¬ (3 : Int32) = 2 by decide, show ¬ (3 : Int32) = 4 by decide, show ¬ (3 : Int32) = 5 by decide, if_true, if_false, hlp e, Option.bind_some]
    by_cases c1 : irm (B.1 4) 3 = 0
    · by_cases c2 : 3 ≤ B.1 2 / 6
      · simp only [c1, c2, if_true]
      · simp only [c1, c2, if_true, if_false]
    · simp only [c1, if_false]
  · simp only [putM_3, putM_4, e, show ¬ (4 : Int32) = 1 by decide, show ¬ (4 : Int32) = 2 by decide, show ¬ (4 : Int32) = 3 by decide, show ¬ (4 : Int32) = 5 by decide, if_true, if_false, hi3, hc3, putM_h3, push, hse]
  · simp only [putM_3, e, show ¬ (5 : Int32) = 1 by decide, show ¬ (5 : Int32) = 2 by decide, show ¬ (5 : Int32) = 3 by decide, show ¬ (5 : Int32) = 4 by decide, if_true, if_false]
theorem le_flip {a b : Int32} : (¬ a < b) ↔ b ≤ a := by grind
theorem struckBy_eq (τ : Sto) (B : BS) (hB : okB B) (hp : B.1 2 ≤ 23) : fX4_struckBy (putM τ B) = some (pStruck B.1 B.2, putM τ B) := by
  obtain ⟨hz, ⟨k0, k1⟩, ⟨p0, p1⟩, hr⟩ := hB
  have hi := inb_of (N := 24) 23 (by decide) p0 hp
  unfold fX4_struckBy pStruck
  simp only [putM_3, putM_4, putM_19, hi, if_true, push, ← le_flip, ite_not]
theorem hit_tab : ∀ n, n < 10 → mnI 9 (nI n + 1) = if 9 ≤ nI n then 9 else nI n + 1 := by decide +kernel
theorem hit_eq {x : Int32} (h0 : 0 ≤ x) (h1 : x ≤ 9) : mnI 9 (x + 1) = if 9 ≤ x then 9 else x + 1 := by
  obtain ⟨n, hn, rfl⟩ := i32_nat 9 9 h0 h1 (by decide)
  exact hit_tab n (by omega)
theorem bHit_ok {B : BS} (hB : okB B) {c : Int32} (h0 : 0 ≤ c) (h1 : c ≤ 23) : okB (bHit B c) := by
  obtain ⟨⟨z0, z1, z2⟩, k, p, h, l, b, t, s, hs⟩ := hB
  have hc := ix_lt (N := 24) 23 (by decide) h0 h1
  refine ⟨⟨?_, ?_, ?_⟩, ?_, ?_, ?_, ?_, ?_, ?_, ?_, ?_⟩
  · simpa [bHit, upd] using z0
  · intro j hj
    have : j ≠ 3 := by omega
    simpa [bHit, upd, this] using z1 j hj
  · intro j hj
    have : j ≠ c.toNatClampNeg := by omega
    simpa [bHit, upd, this] using z2 j hj
  · simpa [bHit, upd] using k
  · simpa [bHit, upd] using p
  · simpa [bHit, upd] using ⟨h0, h1⟩
  · simpa [bHit, upd] using l
  · simpa [bHit, upd] using b
  · simpa [bHit, upd] using t
  · simpa [bHit, upd] using s
  · intro j
    by_cases hj : j = c.toNatClampNeg
    · have := hs c.toNatClampNeg
      have e := hit_eq this.1 this.2
      subst hj
      simp only [bHit, upd, if_true]
      rw [e]
      grind
    · simpa [bHit, upd, hj] using hs j
