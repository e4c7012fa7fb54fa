/-! the pure part, 1: numbers, a Back as two rows, strokes -/
theorem i32_nat {x : Int32} (n : Nat) (M : Int32) (h0 : 0 ≤ x) (h1 : x ≤ M) (hM : M.toInt = n) : ∃ j : Nat, j ≤ n ∧ x = nI j := nI_of2 hM (by grind) h1
theorem inb_nI {n N : Nat} (h : n < N) (hN : N < 2 ^ 31) : inb (nI n) N = true := by
  unfold inb
  have h1 := nI_pos (n := n) (by omega)
  have h2 := nI_clamp (n := n) (by omega)
  rw [h2]
  simp [h1, h]
theorem inb_of {x : Int32} {N : Nat} (M : Int32) (hM : M.toInt + 1 = N) (h0 : 0 ≤ x) (h1 : x ≤ M) (hN : N < 2 ^ 31 := by decide) : inb x N = true := by
  have hp : 0 ≤ M.toInt := by
    have h := Int32.le_iff_toInt_le.mp (Int32.le_trans h0 h1)
    have h00 : (0 : Int32).toInt = 0 := by decide
    omega
  obtain ⟨j, hj, rfl⟩ := i32_nat (N - 1) M h0 h1 (by omega)
  exact inb_nI (by omega) (by omega)
theorem ix_lt {x : Int32} {N : Nat} (M : Int32) (hM : M.toInt + 1 = N) (h0 : 0 ≤ x) (h1 : x ≤ M) (hN : N < 2 ^ 31 := by decide) : x.toNatClampNeg < N := by
  have := inb_of M hM h0 h1 hN
  unfold inb at this
  simp at this
  exact this.2
abbrev BS : Type := (Nat → Int32) × (Nat → Int32)
def putB (σ : Sto) (k : Nat) (B : BS) : Sto := setS (setS σ (k + 1) B.2) k B.1
theorem putB_k (σ : Sto) (k : Nat) (B : BS) : putB σ k B k = B.1 := by simp [putB, setS]
theorem putB_k1 (σ : Sto) (k : Nat) (B : BS) : putB σ k B (k + 1) = B.2 := by simp [putB, setS]
theorem putB_ne (σ : Sto) (k : Nat) (B : BS) {a : Nat} (h1 : a ≠ k) (h2 : a ≠ k + 1) : putB σ k B a = σ a := by simp [putB, setS, h1, h2]
theorem putB_self (σ : Sto) (k : Nat) : putB σ k (σ k, σ (k + 1)) = σ := by
  funext a
  simp only [putB, setS]
  grind
theorem putB_putB (σ : Sto) (k : Nat) (B C : BS) : putB (putB σ k B) k C = putB σ k C := by
  funext a
  simp only [putB, setS]
  grind
theorem putB_up (σ : Sto) (k : Nat) (B : BS) (j : Nat) (x : Int32) : upS (putB σ k B) k j x = putB σ k (upd B.1 j x, B.2) := by
  funext a
  simp only [putB, setS, upS]
  grind
theorem putB_up1 (σ : Sto) (k : Nat) (B : BS) (j : Nat) (x : Int32) : upS (putB σ k B) (k + 1) j x = putB σ k (B.1, upd B.2 j x) := by
  funext a
  simp only [putB, setS, upS]
  grind
theorem upd_eq (f : Nat → Int32) (k : Nat) (x : Int32) : upd f k x k = x := by simp [upd]
theorem upd_ne (f : Nat → Int32) {k j : Nat} (x : Int32) (h : j ≠ k) : upd f k x j = f j := by simp [upd, h]
-- readers of one Back
def pAway2 (f : Nat → Int32) (v : Int32) : Int32 := if f 2 = f 3 - 1 then (if v ≤ 0 then f 2 else f 2 - 1) else f 2
def pAway (f : Nat → Int32) : Int32 := if f 2 / 6 = f 3 / 6 then (if f 2 = f 3 + 1 then (if 5 ≤ irm (f 2) 6 then pAway2 f (irm (f 2) 6) else f 2 + 1) else pAway2 f (irm (f 2) 6)) else f 2
theorem awayFromHand_eq (k : Nat) (σ : Sto) : fX0_awayFromHand k σ = some (pAway (σ k), σ) := by
  unfold fX0_awayFromHand fX0_awayFromHand_b55 fX0_awayFromHand_b81 pAway pAway2
  grind
theorem isNoCell_in {v : Int32} (σ : Sto) (h0 : 0 ≤ v) (h1 : v ≤ 23) : fX3_isNoCell v σ = some (0, σ) := by
  unfold fX3_isNoCell fX3_isNoCell_e chkZ
  grind
theorem isNoCell_out {v : Int32} (σ : Sto) (h : ¬ (0 ≤ v ∧ v ≤ 23)) : fX3_isNoCell v σ = some (1, σ) := by
  unfold fX3_isNoCell fX3_isNoCell_e chkZ
  grind
theorem isNot_in {v n : Int32} (σ : Sto) (h0 : 0 ≤ v) (h1 : v < n) : fX3_isNot v n σ = some (0, σ) := by
  unfold fX3_isNot fX3_isNot_e chkZ
  grind
theorem isNot_out {v n : Int32} (σ : Sto) (h : ¬ (0 ≤ v ∧ v < n)) : fX3_isNot v n σ = some (1, σ) := by
  unfold fX3_isNot fX3_isNot_e chkZ
  grind
theorem soreAt_eq {v : Int32} (k : Nat) (σ : Sto) (h0 : 0 ≤ v) (h1 : v ≤ 23) : fX0_soreAt k v σ = some (σ (k + 1) v.toNatClampNeg, σ) := by
  have hi := inb_of (N := 24) 23 (by decide) h0 h1
  unfold fX0_soreAt
  grind
def pCmp (a b : Int32) : Int32 := if b ≤ a then (if a = b then 0 else 1) else -1
theorem compare_eq (a b : Int32) (σ : Sto) : fJ6_compare_7cf53 a b σ = some (pCmp a b, σ) := by
  unfold fJ6_compare_7cf53 pCmp
  grind
def pOver (x : Int32) : Int32 := ((((x / 6) * 6) + 6) - 1) - irm x 6
theorem pOver_tab : ∀ n, n < 24 → 0 ≤ pOver (nI n) ∧ pOver (nI n) ≤ 23 := by decide +kernel
theorem pOver_rng {x : Int32} (h0 : 0 ≤ x) (h1 : x ≤ 23) : 0 ≤ pOver x ∧ pOver x ≤ 23 := by
  obtain ⟨j, hj, rfl⟩ := i32_nat 23 23 h0 h1 (by decide)
  exact pOver_tab j (by omega)
def pB103 (f s : Nat → Int32) (m : Int32) : Int32 := if f 1 = 3 then (if m = f 2 then (if s (pOver (f 2)).toNatClampNeg = 0 then pOver (f 2) else f 2) else m) else m
def pBeside (f s : Nat → Int32) : Int32 := if f 1 = 5 then 24 else if f 1 = 2 then f 2 else if f 1 = 4 then f 2 + pCmp (f 8) (irm (f 2) 6) else if f 1 = 0 then pB103 f s (pAway f) else if irm (f 4) 3 = 0 then (if 3 ≤ f 2 / 6 then pB103 f s (pAway f) else pB103 f s (f 2 + 6)) else pB103 f s (pAway f)
theorem beside103_eq (k : Nat) (m : Int32) (σ : Sto) (h0 : 0 ≤ σ k 2) (h1 : σ k 2 ≤ 23) : fX0_whenBeside_b103 k m σ = some (pB103 (σ k) (σ (k + 1)) m, σ) := by
  have hr := pOver_rng h0 h1
  have hs := soreAt_eq k σ hr.1 hr.2
  unfold pOver at hs
  unfold fX0_whenBeside_b103 pB103 pOver
  rw [hs]
  simp only [Option.bind_some]
  grind
theorem whenBeside_eq (k : Nat) (σ : Sto) (h0 : 0 ≤ σ k 2) (h1 : σ k 2 ≤ 23) : fX0_whenBeside k σ = some (pBeside (σ k) (σ (k + 1)), σ) := by
  have hb := fun m => beside103_eq k m σ h0 h1
  unfold fX0_whenBeside fX0_whenBeside_b83 fX0_whenBeside_b84 pBeside
  simp only [awayFromHand_eq, compare_eq, Option.bind_some, hb]
  grind
def pStruck (f s : Nat → Int32) : Int32 := if f 1 = 3 then irm (f 2 + 7) 24 else if f 1 = 4 then (if s (f 2).toNatClampNeg < 3 then f 2 else 24) else 24
theorem whenStruck_eq (k : Nat) (σ : Sto) (h0 : 0 ≤ σ k 2) (h1 : σ k 2 ≤ 23) : fX0_whenStruck k σ = some (pStruck (σ k) (σ (k + 1)), σ) := by
  have hs := soreAt_eq k σ h0 h1
  unfold fX0_whenStruck pStruck
  rw [hs]
  simp only [Option.bind_some]
  grind
def bHit (B : BS) (c : Int32) : BS := (upd B.1 3 c, upd B.2 c.toNatClampNeg (mnI 9 (B.2 c.toNatClampNeg + 1)))
def bMove (B : BS) (c : Int32) : BS := if B.1 2 = 24 then B else (upd B.1 2 (if B.1 2 = c then pStruck B.1 B.2 else pBeside B.1 B.2), B.2)
def bTick (B : BS) : BS := (upd B.1 4 (B.1 4 + 1), B.2)
def bStroke (B : BS) (c : Int32) : BS := bTick (bMove (bHit B c) c)
theorem strokeOn_eq (σ : Sto) (k : Nat) (B : BS) {c : Int32} (h0 : 0 ≤ c) (h1 : c ≤ 23) (p0 : 0 ≤ B.1 2) (p1 : B.1 2 ≤ 24) : fX0_strokeOn k c (putB σ k B) = some ((), putB σ k (bStroke B c)) := by
  have hi := inb_of (N := 24) 23 (by decide) h0 h1
  unfold fX0_strokeOn
  rw [isNoCell_in _ h0 h1]
  simp only [Option.bind_some, hi, if_true, putB_k1, putB_up1, putB_up]
  have e : (upd B.1 3 c, upd B.2 c.toNatClampNeg (mnI 9 (B.2 c.toNatClampNeg + 1))) = bHit B c := rfl
  rw [e]
  have hp : (bHit B c).1 2 = B.1 2 := by
    show upd B.1 3 c 2 = B.1 2
    exact upd_ne _ _ (by decide)
  unfold fX0_strokeOn_b32 fX0_strokeOn_b61 fX0_strokeOn_b64
  simp only [putB_k]
  unfold bStroke bMove
  by_cases hg : (bHit B c).1 2 = 24
  · simp only [hg, if_true, putB_up]
    rfl
  · have hb := whenBeside_eq k (putB σ k (bHit B c)) (by rw [putB_k, hp]; exact p0) (by rw [putB_k, hp]; rw [hp] at hg; grind)
    have hs := whenStruck_eq k (putB σ k (bHit B c)) (by rw [putB_k, hp]; exact p0) (by rw [putB_k, hp]; rw [hp] at hg; grind)
    rw [putB_k, putB_k1] at hb hs
    simp only [hg, if_false, hb, hs, Option.bind_some, putB_up, putB_k]
    by_cases hc : (bHit B c).1 2 = c
    · simp only [hc, if_true]
      rfl
    · simp only [hc, if_false]
      rfl
