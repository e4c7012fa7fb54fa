/-! the pure part, 4: words and readers -/
def pW106 (t d s0 : Int32) : Int32 := if abI d < t then s0 + 0 else s0 + 4
def pW94 (t d s : Int32) : Int32 := if s = 0 then pW106 t d 3 else pW106 t d 2
def pW86 (t d s0 s1 : Int32) : Int32 := if s1 = s0 then pW94 t d 1 else pW94 t d 0
def pW77 (l t d s0 : Int32) : Int32 := if l = 0 then pW86 t d 1 s0 else pW86 t d 0 s0
def pWord (a b l t : Int32) : Int32 := if b = 24 then 9 else if (b / 6) - (a / 6) = 0 then (if (irm b 6) - (irm a 6) = 0 then 8 else if 0 ≤ (irm b 6) - (irm a 6) then pW77 l t ((irm b 6) - (irm a 6)) 0 else pW77 l t ((irm b 6) - (irm a 6)) 1) else if 0 ≤ (b / 6) - (a / 6) then pW106 t ((b / 6) - (a / 6)) 1 else pW106 t ((b / 6) - (a / 6)) 0
theorem wordSaid_eq (a b l t : Int32) (σ : Sto) : fX3_wordSaid a b l t σ = some (pWord a b l t, σ) := by
  unfold fX3_wordSaid fX3_wordSaid_b77 fX3_wordSaid_b86 fX3_wordSaid_b94 fX3_wordSaid_b106 fX3_wordSaid_b35 pWord pW77 pW86 pW94 pW106
  simp only [push]
def qW118 (v7 s0 : Int32) : Int32 := if v7 = 0 then s0 + 1 else s0 + 0
def qW99 (t d s0 : Int32) : Int32 := if qApart d 0 < t then qW118 s0 2 else qW118 s0 6
def qW91 (t d s0 s1 : Int32) : Int32 := if s1 = s0 then qW99 t d 1 else qW99 t d 0
def qW82 (l t d s0 : Int32) : Int32 := if l = 0 then qW91 t d 1 s0 else qW91 t d 0 s0
def qW52 (v5 s0 : Int32) : Int32 := if 0 ≤ v5 then s0 + 1 else s0 + 0
def qWord (a b l t : Int32) : Int32 := if b = 24 then 9 else if (b / 6) - (a / 6) = 0 then (if (irm b 6) - (irm a 6) = 0 then 8 else if 0 ≤ (irm b 6) - (irm a 6) then qW82 l t ((irm b 6) - (irm a 6)) 0 else qW82 l t ((irm b 6) - (irm a 6)) 1) else if qApart ((b / 6) - (a / 6)) 0 < t then qW52 ((b / 6) - (a / 6)) 0 else qW52 ((b / 6) - (a / 6)) 4
theorem wordBy_eq (a b l t : Int32) (σ : Sto) : fX4_wordBy a b l t σ = some (qWord a b l t, σ) := by
  unfold fX4_wordBy fX4_wordBy_b82 fX4_wordBy_b91 fX4_wordBy_b99 fX4_wordBy_b118 fX4_wordBy_b52 qWord qW82 qW91 qW99 qW118 qW52
  simp only [apart_eq, Option.bind_some, push]
theorem word_tab : ∀ a, a < 24 → ∀ b, b < 25 → ∀ l, l < 2 → ∀ t, t < 4 → pWord (nI a) (nI b) (nI l) (nI (t + 2)) = qWord (nI a) (nI b) (nI l) (nI (t + 2)) := by decide +kernel
theorem word_rng_tab : ∀ a, a < 24 → ∀ b, b < 24 → ∀ l, l < 2 → ∀ t, t < 4 → 0 ≤ pWord (nI a) (nI b) (nI l) (nI (t + 2)) ∧ pWord (nI a) (nI b) (nI l) (nI (t + 2)) ≤ 8 := by decide +kernel
theorem i32_natL {x : Int32} (k n : Nat) (K M : Int32) (h0 : K ≤ x) (h1 : x ≤ M) (hK : K = nI k) (hM : M.toInt = n) (hk : k < 2 ^ 31) (hn : n < 2 ^ 31) : ∃ j : Nat, j + k ≤ n ∧ x = nI (j + k) := by
  have hp : (0 : Int32) ≤ x := Int32.le_trans (by rw [hK]; exact nI_pos' hk) h0
  obtain ⟨j, hj, rfl⟩ := i32_nat n M hp h1 hM
  rw [hK] at h0
  have := (nI_leI hk (by omega)).mp h0
  exact ⟨j - k, by omega, by congr 1; omega⟩
theorem word_eq {a b l t : Int32} (a0 : 0 ≤ a) (a1 : a ≤ 23) (b0 : 0 ≤ b) (b1 : b ≤ 24) (l0 : 0 ≤ l) (l1 : l ≤ 1) (t0 : 2 ≤ t) (t1 : t ≤ 5) : pWord a b l t = qWord a b l t := by
  obtain ⟨a', ha, rfl⟩ := i32_nat 23 23 a0 a1 (by decide)
  obtain ⟨b', hb, rfl⟩ := i32_nat 24 24 b0 b1 (by decide)
  obtain ⟨l', hl, rfl⟩ := i32_nat 1 1 l0 l1 (by decide)
  obtain ⟨t', ht, rfl⟩ := i32_natL 2 5 2 5 t0 t1 (by decide) (by decide) (by decide) (by decide)
  exact word_tab a' (by omega) b' (by omega) l' (by omega) t' (by omega)
theorem word_rng {a b l t : Int32} (a0 : 0 ≤ a) (a1 : a ≤ 23) (b0 : 0 ≤ b) (b1 : b ≤ 23) (l0 : 0 ≤ l) (l1 : l ≤ 1) (t0 : 2 ≤ t) (t1 : t ≤ 5) : 0 ≤ pWord a b l t ∧ pWord a b l t ≤ 8 := by
  obtain ⟨a', ha, rfl⟩ := i32_nat 23 23 a0 a1 (by decide)
  obtain ⟨b', hb, rfl⟩ := i32_nat 23 23 b0 b1 (by decide)
  obtain ⟨l', hl, rfl⟩ := i32_nat 1 1 l0 l1 (by decide)
  obtain ⟨t', ht, rfl⟩ := i32_natL 2 5 2 5 t0 t1 (by decide) (by decide) (by decide) (by decide)
  exact word_rng_tab a' (by omega) b' (by omega) l' (by omega) t' (by omega)
-- readers
def pSt15 (rd isl b : Int32) : Int32 := if rd = 1 then 1 else if rd = 2 then 2 * b else if rd = 3 then b else if rd = 4 then (if isl = 0 then 1 else b) else b
def pSteps (rd isl bit lot : Int32) : Int32 := if isl = 0 then pSt15 rd isl bit else pSt15 rd isl lot
theorem stepsOf_eq (k : Nat) (rd isl : Int32) (σ : Sto) : fX0_stepsOf k rd isl σ = some (pSteps rd isl (σ k 6) (σ k 7), σ) := by
  unfold fX0_stepsOf fX0_stepsOf_b15 pSteps pSt15
  simp only [push]
def pR136 (v6 v7 : Int32) : Int32 := (6 * mxI 0 (mnI 3 v6)) + mxI 0 (mnI 5 v7)
def pR78 (v4 v5 v6 v7 : Int32) : Int32 := if v5 = 0 then pR136 (v6 + -v4) v7 else pR136 (v6 + v4) v7
def pR122 (v4 v6 s0 s1 s2 : Int32) : Int32 := if s1 = s0 then pR136 v6 (s2 + -v4) else pR136 v6 (s2 + v4)
def pR112 (rd v4 v6 s0 s1 : Int32) : Int32 := if rd = 3 then pR122 v4 v6 0 s0 s1 else pR122 v4 v6 1 s0 s1
def pR39 (rd w st hand : Int32) : Int32 := if irm w 4 = 0 then pR78 st (irm w 4) (hand / 6) (irm hand 6) else if irm w 4 = 1 then pR78 st (irm w 4) (hand / 6) (irm hand 6) else if irm w 4 = 2 then pR112 rd st (hand / 6) 1 (irm hand 6) else pR112 rd st (hand / 6) 0 (irm hand 6)
def pRd (rd w hand bit lot : Int32) : Int32 := if w < 0 then hand else if w < 8 then (if w < 4 then pR39 rd w (pSteps rd 0 bit lot) hand else pR39 rd w (pSteps rd 1 bit lot) hand) else hand
def pRead (rd w n hand bit lot : Int32) : Int32 := if rd = 5 then irm n 24 else pRd rd w hand bit lot
theorem xor_nn {n : Int32} (h : 0 ≤ n) : 0 ≤ n ^^^ 24 := by
  have h1 : n.toBitVec.msb = false := by
    have := Int32.le_iff_toInt_le.mp h
    have h0 : (0 : Int32).toInt = 0 := by decide
    rw [h0] at this
    have e : n.toBitVec.toInt = n.toInt := rfl
    rw [BitVec.msb_eq_toInt, e]
    simp
    omega
  refine Int32.le_iff_toInt_le.mpr ?_
  have h0 : (0 : Int32).toInt = 0 := by decide
  have e : (n ^^^ 24).toInt = (n.toBitVec ^^^ (24 : Int32).toBitVec).toInt := rfl
  have h2 : (n.toBitVec ^^^ (24 : Int32).toBitVec).msb = false := by
    rw [BitVec.msb_xor, h1]
    decide
  rw [h0, e]
  generalize n.toBitVec ^^^ (24 : Int32).toBitVec = q at h2 ⊢
  rw [BitVec.msb_eq_toInt] at h2
  simpa using h2
theorem readBy_eq (k : Nat) (rd w n : Int32) (σ : Sto) (hn : 0 ≤ n) : fX0_readBy k rd w n σ = some (pRead rd w n (σ k 3) (σ k 6) (σ k 7), σ) := by
  have hx := xor_nn hn
  have h24 : ¬ (24 : Int32) = 0 := by decide
  unfold fX0_readBy fX0_readBy_b39 fX0_readBy_b78 fX0_readBy_b93 fX0_readBy_b112 fX0_readBy_b122 fX0_readBy_b133 fX0_readBy_b136 fX0_readBy_b22 fX0_clamp fJ9_floorMod_7cf53
  simp only [stepsOf_eq, Option.bind_some, hx, h24, not_false_eq_true, if_true, push]
  rfl
def qHeld (v a b : Int32) : Int32 := if a ≤ v then (if v ≤ b then v else b) else a
theorem held_eq (v a b : Int32) (σ : Sto) : fX4_held v a b σ = some (qHeld v a b, σ) := by
  unfold fX4_held qHeld
  simp only [push]
def qR158 (v4 v6 s0 s1 s2 : Int32) : Int32 := if s1 = s0 then s2 + qHeld (v6 - v4) 0 5 else s2 + qHeld (v6 + v4) 0 5
def qR101 (rd w on row col s0 : Int32) : Int32 := if irm (w / 2) 2 = 0 then (if s0 = 0 then (6 * qHeld (row + on) 0 3) + col else (6 * qHeld (row - on) 0 3) + col) else (if rd = 3 then qR158 on col 0 s0 (6 * row) else qR158 on col 1 s0 (6 * row))
def qR72 (rd w on hand : Int32) : Int32 := if irm w 2 = 0 then qR101 rd w on (hand / 6) (irm hand 6) 1 else qR101 rd w on (hand / 6) (irm hand 6) 0
def qR61 (rd w on hand : Int32) : Int32 := if rd = 2 then qR72 rd w (on * 2) hand else qR72 rd w on hand
def qR41 (rd w b hand : Int32) : Int32 := if rd = 1 then qR61 rd w 1 hand else if rd = 4 then (if 4 ≤ w then qR61 rd w b hand else qR61 rd w 1 hand) else qR61 rd w b hand
def qRd (rd w hand bit lot : Int32) : Int32 := if w = 8 then hand else if w ≤ 3 then qR41 rd w bit hand else qR41 rd w lot hand
theorem mreadBy_eq (rd w n : Int32) (τ : Sto) (B : BS) : fX4_readBy rd w n (putM τ B) = some (if rd = 5 then irm n 24 else qRd rd w (B.1 3) (B.1 6) (B.1 7), putM τ B) := by
  have i1 : inb 1 4 = true := by decide
  have i2 : inb 2 4 = true := by decide
  have c1 : (1 : Int32).toNatClampNeg = 1 := by decide
  have c2 : (2 : Int32).toNatClampNeg = 2 := by decide
  unfold fX4_readBy fX4_readBy_b41 fX4_readBy_b58 fX4_readBy_b61 fX4_readBy_b72 fX4_readBy_b101 fX4_readBy_b158 fX4_readBy_b174 fX4_readBy_b131
  simp only [held_eq, Option.bind_some, i1, i2, c1, c2, putM_h1, putM_h2, putM_5, if_true, push]
  rfl
def rdB (r w h b l : Nat) : Bool := decide (pRd (nI r) (nI w) (nI h) (nI (b + 1)) (nI (l + 2)) = qRd (nI r) (nI w) (nI h) (nI (b + 1)) (nI (l + 2)) ∧ 0 ≤ pRd (nI r) (nI w) (nI h) (nI (b + 1)) (nI (l + 2)) ∧ pRd (nI r) (nI w) (nI h) (nI (b + 1)) (nI (l + 2)) ≤ 23)
theorem read_tab0 : ((List.range 5).all fun r => (List.range 9).all fun w => (List.range 24).all fun h => (List.range 3).all fun b => (List.range 4).all fun l => rdB r w h b l) = true := by decide +kernel
theorem read_tab {r w h b l : Nat} (hr : r < 5) (hw : w < 9) (hh : h < 24) (hb : b < 3) (hl : l < 4) : pRd (nI r) (nI w) (nI h) (nI (b + 1)) (nI (l + 2)) = qRd (nI r) (nI w) (nI h) (nI (b + 1)) (nI (l + 2)) ∧ 0 ≤ pRd (nI r) (nI w) (nI h) (nI (b + 1)) (nI (l + 2)) ∧ pRd (nI r) (nI w) (nI h) (nI (b + 1)) (nI (l + 2)) ≤ 23 := by
  have h0 := read_tab0
  have h1 := List.all_eq_true.mp h0 r (List.mem_range.mpr hr)
  have h2 := List.all_eq_true.mp h1 w (List.mem_range.mpr hw)
  have h3 := List.all_eq_true.mp h2 h (List.mem_range.mpr hh)
  have h4 := List.all_eq_true.mp h3 b (List.mem_range.mpr hb)
  have h5 := List.all_eq_true.mp h4 l (List.mem_range.mpr hl)
  exact of_decide_eq_true h5
