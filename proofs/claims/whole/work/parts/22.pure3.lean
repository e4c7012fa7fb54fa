/-! the pure part, 3: a stroke keeps a Back well; the reference strokes alike; words and readers -/
theorem struck_tab : ∀ n, n < 24 → 0 ≤ irm (nI n + 7) 24 ∧ irm (nI n + 7) 24 ≤ 24 := by decide +kernel
theorem away_rng : ∀ n, n < 24 → ∀ m, m < 24 → 0 ≤ qPlain (nI n) (nI m) ∧ qPlain (nI n) (nI m) ≤ 24 := by decide +kernel
theorem seam_rng : ∀ n, n < 24 → ∀ m, m < 6 → 0 ≤ nI n + pCmp (nI m) (irm (nI n) 6) ∧ nI n + pCmp (nI m) (irm (nI n) 6) ≤ 24 := by decide +kernel
theorem creep_rng : ∀ n, n < 24 → ¬ (3 : Int32) ≤ nI n / 6 → 0 ≤ nI n + 6 ∧ nI n + 6 ≤ 24 := by decide +kernel
theorem pStruck_rng {B : BS} (hB : okB B) (hp : B.1 2 ≤ 23) : 0 ≤ pStruck B.1 B.2 ∧ pStruck B.1 B.2 ≤ 24 := by
  obtain ⟨hz, hk, ⟨p0, p1⟩, hr⟩ := hB
  obtain ⟨n, hn, e1⟩ := i32_nat 23 23 p0 hp (by decide)
  have h := struck_tab n (by omega)
  rw [← e1] at h
  unfold pStruck
  split
  · exact h
  · split
    · split
      · exact ⟨p0, p1⟩
      · exact ⟨by decide, by decide⟩
    · exact ⟨by decide, by decide⟩
theorem pB103_rng {B : BS} (hB : okB B) (hp : B.1 2 ≤ 23) {m : Int32} (h0 : 0 ≤ m) (h1 : m ≤ 24) : 0 ≤ pB103 B.1 B.2 m ∧ pB103 B.1 B.2 m ≤ 24 := by
  obtain ⟨hz, hk, ⟨p0, p1⟩, hr⟩ := hB
  have ho := pOver_rng p0 hp
  have ho2 : pOver (B.1 2) ≤ 24 := Int32.le_trans ho.2 (by decide)
  unfold pB103
  split
  · split
    · split
      · exact ⟨ho.1, ho2⟩
      · exact ⟨p0, p1⟩
    · exact ⟨h0, h1⟩
  · exact ⟨h0, h1⟩
theorem pBeside_rng {B : BS} (hB : okB B) (hp : B.1 2 ≤ 23) : 0 ≤ pBeside B.1 B.2 ∧ pBeside B.1 B.2 ≤ 24 := by
  have h103 := fun m => pB103_rng hB hp (m := m)
  obtain ⟨hz, ⟨k0, k1⟩, ⟨p0, p1⟩, ⟨h0, h1⟩, hl, hb, ht, ⟨s0, s1⟩, hs⟩ := hB
  obtain ⟨n, hn, e1⟩ := i32_nat 23 23 p0 hp (by decide)
  obtain ⟨m, hm, e2⟩ := i32_nat 23 23 h0 h1 (by decide)
  obtain ⟨q, hq, e3⟩ := i32_nat 5 5 s0 s1 (by decide)
  have ha : 0 ≤ pAway B.1 ∧ pAway B.1 ≤ 24 := by
    rw [away_eq p0 hp h0 h1, e1, e2]
    exact away_rng n (by omega) m (by omega)
  have hse := seam_rng n (by omega) q (by omega)
  have hcr := creep_rng n (by omega)
  rw [← e1] at hse hcr
  rw [← e3] at hse
  unfold pBeside
  split
  · exact ⟨by decide, by decide⟩
  · split
    · exact ⟨p0, p1⟩
    · split
      · exact hse
      · split
        · exact h103 _ ha.1 ha.2
        · split
          · split
            · exact h103 _ ha.1 ha.2
            · rename_i c
              exact h103 _ (hcr c).1 (hcr c).2
          · exact h103 _ ha.1 ha.2
theorem okB_up2 {B : BS} (hB : okB B) {x : Int32} (h0 : 0 ≤ x) (h1 : x ≤ 24) : okB (upd B.1 2 x, B.2) := by
  obtain ⟨⟨z0, z1, z2⟩, k, p, h, l, b, t, s, hs⟩ := hB
  refine ⟨⟨?_, ?_, z2⟩, ?_, ?_, ?_, ?_, ?_, ?_, ?_, hs⟩
  · simpa [upd] using z0
  · intro j hj
    have : j ≠ 2 := by omega
    simpa [upd, this] using z1 j hj
  · simpa [upd] using k
  · simpa [upd] using ⟨h0, h1⟩
  · simpa [upd] using h
  · simpa [upd] using l
  · simpa [upd] using b
  · simpa [upd] using t
  · simpa [upd] using s
theorem okB_up4 {B : BS} (hB : okB B) (x : Int32) : okB (upd B.1 4 x, B.2) := by
  obtain ⟨⟨z0, z1, z2⟩, k, p, h, l, b, t, s, hs⟩ := hB
  refine ⟨⟨?_, ?_, z2⟩, ?_, ?_, ?_, ?_, ?_, ?_, ?_, hs⟩
  · simpa [upd] using z0
  · intro j hj
    have : j ≠ 4 := by omega
    simpa [upd, this] using z1 j hj
  · simpa [upd] using k
  · simpa [upd] using p
  · simpa [upd] using h
  · simpa [upd] using l
  · simpa [upd] using b
  · simpa [upd] using t
  · simpa [upd] using s
theorem bMove_ok {B : BS} (hB : okB B) (c : Int32) : okB (bMove B c) := by
  unfold bMove
  split
  · exact hB
  · rename_i hg
    have hp : B.1 2 ≤ 23 := by
      have := hB.2.2.1
      grind
    have h1 := pStruck_rng hB hp
    have h2 := pBeside_rng hB hp
    split
    · exact okB_up2 hB h1.1 h1.2
    · exact okB_up2 hB h2.1 h2.2
theorem bStroke_ok {B : BS} (hB : okB B) {c : Int32} (h0 : 0 ≤ c) (h1 : c ≤ 23) : okB (bStroke B c) := okB_up4 (bMove_ok (bHit_ok hB h0 h1) c) _
theorem bHit_3 (B : BS) (c : Int32) : (bHit B c).1 3 = c := by simp [bHit, upd]
theorem bHit_2 (B : BS) (c : Int32) : (bHit B c).1 2 = B.1 2 := by simp [bHit, upd]
theorem strokes_eq (τ : Sto) {B : BS} (hB : okB B) {c : Int32} (h0 : 0 ≤ c) (h1 : c ≤ 23) : fX4_strokes c (putM τ B) = some ((), putM τ (bStroke B c)) := by
  have hi := inb_of (N := 24) 23 (by decide) h0 h1
  have hx := hB.2.2.2.2.2.2.2.2 c.toNatClampNeg
  have hh := hit_eq hx.1 hx.2
  have hok := bHit_ok hB h0 h1
  have e : ∀ v, fX4_strokes_b29 c v c (putM τ B) = fX4_strokes_b35 (putM τ (upd B.1 3 c, upd B.2 c.toNatClampNeg v)) := by
    intro v
    unfold fX4_strokes_b29
    simp only [hi, if_true, putM_u19, putM_u5]
  have e2 : fX4_strokes c (putM τ B) = fX4_strokes_b35 (putM τ (bHit B c)) := by
    unfold fX4_strokes bHit
    simp only [hi, if_true, putM_19, e, hh]
    split <;> rfl
  rw [e2]
  unfold fX4_strokes_b35 fX4_strokes_b67 fX4_strokes_b70 bStroke bMove bTick
  simp only [putM_4, putM_5, bHit_3]
  by_cases hg : (bHit B c).1 2 = 24
  · simp only [hg, if_true, putM_6, putM_u6]
  · have hp : (bHit B c).1 2 ≤ 23 := by
      have := hok.2.2.1
      grind
    have hb := besideBy_eq τ (bHit B c) hok hp
    have hs := struckBy_eq τ (bHit B c) hok hp
    simp only [hg, if_false, hb, hs, Option.bind_some, putM_u4, putM_6, putM_u6]
    by_cases hc : (bHit B c).1 2 = c
    · simp only [hc, if_true]
    · simp only [hc, if_false]
