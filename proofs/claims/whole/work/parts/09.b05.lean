-- fX4_wordFrom
def fX4_wordFrom (v1 : Int32) (v2 : Int32) (σ : Sto) : Option (Int32 × Sto) := if inb (0 : Int32) 4 = true then (if inb (2 : Int32) 4 = true then ((fX4_wordBy v1 v2 (σ 20 ((0 : Int32)).toNatClampNeg) (σ 20 ((2 : Int32)).toNatClampNeg) σ).bind fun q1 => some (q1.1, q1.2)) else none) else none
set_option maxRecDepth 100000 in
set_option maxHeartbeats 4000000 in
theorem wfX4_wordFrom (X : Scr) (v1 : Int32) (v2 : Int32) (σ : Sto) (z : Int32 × Sto) (h : fX4_wordFrom v1 v2 σ = some z) : Rt X RX4 cX4_wordFrom 3 (rmA 2 48) .ireturn 0 [(0, .ref 17), (1, .int v1), (2, .int v2)] [] σ (some (.int z.1)) z.2 := by
  unfold fX4_wordFrom at h
  refine Rt.aload_n 0 dX4_wordFrom_0 rfl ?_
  refine Rt.iload_n 1 dX4_wordFrom_1 rfl ?_
  refine Rt.iload_n 2 dX4_wordFrom_2 rfl ?_
  refine Rt.aload_n 0 dX4_wordFrom_3 rfl ?_
  refine gfX4_16 ly17 dX4_wordFrom_4 ?_
  refine Rt.iconst 0 dX4_wordFrom_7 (by decide) ?_
  obtain ⟨g1, h⟩ := gd h
  refine Rt.iald ly20 g1 dX4_wordFrom_8 ?_
  refine Rt.aload_n 0 dX4_wordFrom_9 rfl ?_
  refine gfX4_16 ly17 dX4_wordFrom_10 ?_
  refine Rt.iconst 2 dX4_wordFrom_13 (by decide) ?_
  obtain ⟨g2, h⟩ := gd h
  refine Rt.iald ly20 g2 dX4_wordFrom_14 ?_
  obtain ⟨q1, e1, h⟩ := bnd h
  refine Rt.cV (mfX4_wordBy v1 v2 (σ 20 ((0 : Int32)).toNatClampNeg) (σ 20 ((2 : Int32)).toNatClampNeg) _ q1 e1) lkX4_163 ly17 rfl rfl rfl ⟨Nat.le_of_ble_eq_true rfl, Nat.le_of_ble_eq_true rfl⟩ (Nat.le_of_ble_eq_true rfl) rfl dX4_wordFrom_15 ?_
  obtain rfl := Option.some.inj h
  exact Rt.ret (v := some (.int q1.1)) dX4_wordFrom_18 rfl rfl rfl
set_option maxRecDepth 100000 in
set_option maxHeartbeats 4000000 in
theorem mfX4_wordFrom (v1 : Int32) (v2 : Int32) (σ : Sto) (z : Int32 × Sto) (h : fX4_wordFrom v1 v2 σ = some z) : AM yX4_wordFrom cX4_wordFrom 3 (some .int) 2 48 [.ref 17, .int v1, .int v2] σ (some (.int z.1)) z.2 := AM.int rfl (Nat.le_of_ble_eq_true rfl) (fun X => wfX4_wordFrom X v1 v2 σ z h)
-- fX4_say
def fX4_say (σ : Sto) : Option (Int32 × Sto) := (fX4_wordFrom (σ 17 5) (σ 17 4) σ).bind fun q1 => some (q1.1, q1.2)
set_option maxRecDepth 100000 in
set_option maxHeartbeats 4000000 in
theorem wfX4_say (X : Scr) (σ : Sto) (z : Int32 × Sto) (h : fX4_say σ = some z) : Rt X RX4 cX4_say 1 (rmA 3 70) .ireturn 0 [(0, .ref 17)] [] σ (some (.int z.1)) z.2 := by
  unfold fX4_say at h
  refine Rt.aload_n 0 dX4_say_0 rfl ?_
  refine Rt.aload_n 0 dX4_say_1 rfl ?_
  refine gfX4_142 ly17 dX4_say_2 ?_
  refine Rt.aload_n 0 dX4_say_5 rfl ?_
  refine gfX4_101 ly17 dX4_say_6 ?_
  obtain ⟨q1, e1, h⟩ := bnd h
  refine Rt.cV (mfX4_wordFrom (σ 17 5) (σ 17 4) _ q1 e1) lkX4_170 ly17 rfl rfl rfl ⟨Nat.le_of_ble_eq_true rfl, Nat.le_of_ble_eq_true rfl⟩ (Nat.le_of_ble_eq_true rfl) rfl dX4_say_9 ?_
  obtain rfl := Option.some.inj h
  exact Rt.ret (v := some (.int q1.1)) dX4_say_12 rfl rfl rfl
set_option maxRecDepth 100000 in
set_option maxHeartbeats 4000000 in
theorem mfX4_say (σ : Sto) (z : Int32 × Sto) (h : fX4_say σ = some z) : AM yX4_say cX4_say 1 (some .int) 3 70 [.ref 17] σ (some (.int z.1)) z.2 := AM.int rfl (Nat.le_of_ble_eq_true rfl) (fun X => wfX4_say X σ z h)
-- fX4_word
def fX4_word_b23 (σ : Sto) : Option (Int32 × Sto) := (fX4_no (-1 : Int32) σ).bind fun q2 => some (q2.1, q2.2)
set_option maxRecDepth 100000 in
set_option maxHeartbeats 4000000 in
theorem wfX4_word_b23 (X : Scr) (σ : Sto) (z : Int32 × Sto) (h : fX4_word_b23 σ = some z) : Rt X RX4 cX4_word 3 (rmA 3 70) .ireturn 23 [(0, .ref 17)] [] σ (some (.int z.1)) z.2 := by
  unfold fX4_word_b23 at h
  refine Rt.aload_n 0 dX4_word_23 rfl ?_
  refine Rt.iconst (-1) dX4_word_24 (by decide) ?_
  obtain ⟨q2, e2, h⟩ := bnd h
  refine Rt.cV (mfX4_no (-1 : Int32) _ q2 e2) lkX4_60 ly17 rfl rfl rfl ⟨Nat.le_of_ble_eq_true rfl, Nat.le_of_ble_eq_true rfl⟩ (Nat.le_of_ble_eq_true rfl) rfl dX4_word_25 ?_
  obtain rfl := Option.some.inj h
  exact Rt.ret (v := some (.int q2.1)) dX4_word_28 rfl rfl rfl
def fX4_word (v1 : Int32) (v2 : Int32) (σ : Sto) : Option (Int32 × Sto) := (fX4_isCell v1 σ).bind fun q1 => if q1.1 = 0 then (fX4_word_b23 q1.2) else ((fX4_isCell v2 q1.2).bind fun q3 => if q3.1 = 0 then (fX4_word_b23 q3.2) else ((fX4_wordFrom v1 v2 q3.2).bind fun q4 => some (q4.1, q4.2)))
set_option maxRecDepth 100000 in
set_option maxHeartbeats 4000000 in
theorem wfX4_word (X : Scr) (v1 : Int32) (v2 : Int32) (σ : Sto) (z : Int32 × Sto) (h : fX4_word v1 v2 σ = some z) : Rt X RX4 cX4_word 3 (rmA 3 70) .ireturn 0 [(0, .ref 17), (1, .int v1), (2, .int v2)] [] σ (some (.int z.1)) z.2 := by
  unfold fX4_word at h
  refine Rt.iload_n 1 dX4_word_0 rfl ?_
  obtain ⟨q1, e1, h⟩ := bnd h
  refine Rt.cS (mfX4_isCell v1 _ q1 e1) lkX4_104 rfl ⟨Nat.le_of_ble_eq_true rfl, Nat.le_of_ble_eq_true rfl⟩ (Nat.le_of_ble_eq_true rfl) rfl dX4_word_1 ?_
  refine Rt.if_eq 23 dX4_word_4 (by decide) (fun c1 => ?_) (fun c1 => ?_)
  · replace h := (if_pos c1).symm.trans h
    refine Rt.pick [0] rfl ?_
    exact wfX4_word_b23 X _ z h
  · replace h := (if_neg c1).symm.trans h
    refine Rt.iload_n 2 dX4_word_7 rfl ?_
    obtain ⟨q3, e3, h⟩ := bnd h
    refine Rt.cS (mfX4_isCell v2 _ q3 e3) lkX4_104 rfl ⟨Nat.le_of_ble_eq_true rfl, Nat.le_of_ble_eq_true rfl⟩ (Nat.le_of_ble_eq_true rfl) rfl dX4_word_8 ?_
    refine Rt.if_eq 23 dX4_word_11 (by decide) (fun c2 => ?_) (fun c2 => ?_)
    · replace h := (if_pos c2).symm.trans h
      refine Rt.pick [0] rfl ?_
      exact wfX4_word_b23 X _ z h
    · replace h := (if_neg c2).symm.trans h
      refine Rt.aload_n 0 dX4_word_14 rfl ?_
      refine Rt.iload_n 1 dX4_word_15 rfl ?_
      refine Rt.iload_n 2 dX4_word_16 rfl ?_
      obtain ⟨q4, e4, h⟩ := bnd h
      refine Rt.cV (mfX4_wordFrom v1 v2 _ q4 e4) lkX4_170 ly17 rfl rfl rfl ⟨Nat.le_of_ble_eq_true rfl, Nat.le_of_ble_eq_true rfl⟩ (Nat.le_of_ble_eq_true rfl) rfl dX4_word_17 ?_
      refine Rt.goto 28 dX4_word_20 (by decide) ?_
      obtain rfl := Option.some.inj h
      exact Rt.ret (v := some (.int q4.1)) dX4_word_28 rfl rfl rfl
set_option maxRecDepth 100000 in
set_option maxHeartbeats 4000000 in
theorem mfX4_word (v1 : Int32) (v2 : Int32) (σ : Sto) (z : Int32 × Sto) (h : fX4_word v1 v2 σ = some z) : AM yX4_word cX4_word 3 (some .int) 3 70 [.ref 17, .int v1, .int v2] σ (some (.int z.1)) z.2 := AM.int rfl (Nat.le_of_ble_eq_true rfl) (fun X => wfX4_word X v1 v2 σ z h)
-- fX4_behind
def fX4_behind_l38 : Nat → Int32 → Int32 → Int32 → Sto → Option (Int32 × Sto)
  | 0, _, _, _, _ => none
  | n + 1, v1, v2, v4, σ => if v2 ≤ v4 then ((fX4_passesAll (1 : Int32) (0 : Int32) σ).bind fun q4 => some ((σ 17 4), q4.2)) else ((fX4_strokes v1 σ).bind fun q5 => fX4_behind_l38 n v1 v2 (v4 + (1 : Int32)) q5.2)
set_option maxRecDepth 100000 in
set_option maxHeartbeats 4000000 in
theorem wfX4_behind_l38 (X : Scr) : ∀ (n : Nat) (v1 : Int32) (v2 : Int32) (v4 : Int32) (σ : Sto) (z : Int32 × Sto), fX4_behind_l38 n v1 v2 v4 σ = some z → Rt X RX4 cX4_behind 5 (rmA 6 126) .ireturn 38 [(0, .ref 17), (1, .int v1), (2, .int v2), (4, .int v4)] [] σ (some (.int z.1)) z.2 := by
  intro n
  induction n with
  | zero =>
    intro v1 v2 v4 σ z h
    rw [fX4_behind_l38] at h
    cases h
  | succ n ih =>
    intro v1 v2 v4 σ z h
    rw [fX4_behind_l38] at h
    refine Rt.iload 3 dX4_behind_38 rfl ?_
    refine Rt.iload_n 2 dX4_behind_40 rfl ?_
    refine Rt.icmp_ge 55 dX4_behind_41 (by decide) (fun c3 => ?_) (fun c3 => ?_)
    · replace h := (if_pos c3).symm.trans h
      refine Rt.aload_n 0 dX4_behind_55 rfl ?_
      refine gfX4_101 ly17 dX4_behind_56 ?_
      refine Rt.istore [(4, _), (0, _), (1, _), (2, _)] dX4_behind_59 (by decide) rfl ?_
      refine Rt.aload_n 1 dX4_behind_61 rfl ?_
      refine Rt.iconst 1 dX4_behind_62 (by decide) ?_
      refine Rt.iconst 0 dX4_behind_63 (by decide) ?_
      obtain ⟨q4, e4, h⟩ := bnd h
      refine Rt.cV0 (mfX4_passesAll (1 : Int32) (0 : Int32) _ q4 e4) lkX4_121 ly17 rfl rfl rfl ⟨Nat.le_of_ble_eq_true rfl, Nat.le_of_ble_eq_true rfl⟩ (Nat.le_of_ble_eq_true rfl) rfl dX4_behind_64 ?_
      refine Rt.iload 0 dX4_behind_67 rfl ?_
      obtain rfl := Option.some.inj h
      exact Rt.ret (v := some (.int (σ 17 4))) dX4_behind_69 rfl rfl rfl
    · replace h := (if_neg c3).symm.trans h
      refine Rt.aload_n 0 dX4_behind_44 rfl ?_
      refine Rt.iload_n 1 dX4_behind_45 rfl ?_
      obtain ⟨q5, e5, h⟩ := bnd h
      refine Rt.cV0 (mfX4_strokes v1 _ q5 e5) lkX4_113 ly17 rfl rfl rfl ⟨Nat.le_of_ble_eq_true rfl, Nat.le_of_ble_eq_true rfl⟩ (Nat.le_of_ble_eq_true rfl) rfl dX4_behind_46 ?_
      refine Rt.iinc [(4, _), (0, _), (1, _), (2, _)] (v4 + (1 : Int32)) 3 dX4_behind_49 rfl rfl (by decide) rfl ?_
      refine Rt.goto 38 dX4_behind_52 (by decide) ?_
      refine Rt.pick [1, 2, 3, 0] rfl ?_
      exact ih v1 v2 (v4 + (1 : Int32)) _ z h
def fX4_behind_b18 (v1 : Int32) (v2 : Int32) (s0 : Int32) (σ : Sto) : Option (Int32 × Sto) := if s0 = 0 then ((fX4_passesAll (1 : Int32) (1 : Int32) σ).bind fun q3 => fX4_behind_l38 300 v1 v2 (0 : Int32) q3.2) else ((fX4_no s0 σ).bind fun q6 => some (q6.1, q6.2))
set_option maxRecDepth 100000 in
set_option maxHeartbeats 4000000 in
theorem wfX4_behind_b18 (X : Scr) (v1 : Int32) (v2 : Int32) (s0 : Int32) (σ : Sto) (z : Int32 × Sto) (h : fX4_behind_b18 v1 v2 s0 σ = some z) : Rt X RX4 cX4_behind 5 (rmA 6 126) .ireturn 18 [(0, .ref 17), (1, .int v1), (2, .int v2)] [.int s0] σ (some (.int z.1)) z.2 := by
  unfold fX4_behind_b18 at h
  refine Rt.istore_n [(3, _), (0, _), (1, _), (2, _)] dX4_behind_18 (by decide) rfl ?_
  refine Rt.iload_n 0 dX4_behind_19 rfl ?_
  refine Rt.if_eq 29 dX4_behind_20 (by decide) (fun c2 => ?_) (fun c2 => ?_)
  · replace h := (if_pos c2).symm.trans h
    refine Rt.aload_n 1 dX4_behind_29 rfl ?_
    refine Rt.iconst 1 dX4_behind_30 (by decide) ?_
    refine Rt.iconst 1 dX4_behind_31 (by decide) ?_
    obtain ⟨q3, e3, h⟩ := bnd h
    refine Rt.cV0 (mfX4_passesAll (1 : Int32) (1 : Int32) _ q3 e3) lkX4_121 ly17 rfl rfl rfl ⟨Nat.le_of_ble_eq_true rfl, Nat.le_of_ble_eq_true rfl⟩ (Nat.le_of_ble_eq_true rfl) rfl dX4_behind_32 ?_
    refine Rt.iconst 0 dX4_behind_35 (by decide) ?_
    refine Rt.istore [(4, _), (3, _), (0, _), (1, _), (2, _)] dX4_behind_36 (by decide) rfl ?_
    refine Rt.pick [2, 3, 4, 0] rfl ?_
    exact wfX4_behind_l38 X 300 v1 v2 (0 : Int32) _ z h
  · replace h := (if_neg c2).symm.trans h
    refine Rt.aload_n 1 dX4_behind_23 rfl ?_
    refine Rt.iload_n 0 dX4_behind_24 rfl ?_
    obtain ⟨q6, e6, h⟩ := bnd h
    refine Rt.cV (mfX4_no s0 _ q6 e6) lkX4_60 ly17 rfl rfl rfl ⟨Nat.le_of_ble_eq_true rfl, Nat.le_of_ble_eq_true rfl⟩ (Nat.le_of_ble_eq_true rfl) rfl dX4_behind_25 ?_
    obtain rfl := Option.some.inj h
    exact Rt.ret (v := some (.int q6.1)) dX4_behind_28 rfl rfl rfl
def fX4_behind (v1 : Int32) (v2 : Int32) (σ : Sto) : Option (Int32 × Sto) := (fX4_isCell v1 σ).bind fun q1 => if q1.1 = 0 then (fX4_behind_b18 v1 v2 (-1 : Int32) q1.2) else ((fX4_bound v2 (0 : Int32) (20 : Int32) q1.2).bind fun q2 => fX4_behind_b18 v1 v2 q2.1 q2.2)
set_option maxRecDepth 100000 in
set_option maxHeartbeats 4000000 in
theorem wfX4_behind (X : Scr) (v1 : Int32) (v2 : Int32) (σ : Sto) (z : Int32 × Sto) (h : fX4_behind v1 v2 σ = some z) : Rt X RX4 cX4_behind 5 (rmA 6 126) .ireturn 0 [(0, .ref 17), (1, .int v1), (2, .int v2)] [] σ (some (.int z.1)) z.2 := by
  unfold fX4_behind at h
  refine Rt.iload_n 1 dX4_behind_0 rfl ?_
  obtain ⟨q1, e1, h⟩ := bnd h
  refine Rt.cS (mfX4_isCell v1 _ q1 e1) lkX4_104 rfl ⟨Nat.le_of_ble_eq_true rfl, Nat.le_of_ble_eq_true rfl⟩ (Nat.le_of_ble_eq_true rfl) rfl dX4_behind_1 ?_
  refine Rt.if_ne 11 dX4_behind_4 (by decide) (fun c1 => ?_) (fun c1 => ?_)
  · replace h := (if_neg c1).symm.trans h
    refine Rt.iload_n 2 dX4_behind_11 rfl ?_
    refine Rt.iconst 0 dX4_behind_12 (by decide) ?_
    refine Rt.bipush 20 dX4_behind_13 (by decide) ?_
    obtain ⟨q2, e2, h⟩ := bnd h
    refine Rt.cS (mfX4_bound v2 (0 : Int32) (20 : Int32) _ q2 e2) lkX4_52 rfl ⟨Nat.le_of_ble_eq_true rfl, Nat.le_of_ble_eq_true rfl⟩ (Nat.le_of_ble_eq_true rfl) rfl dX4_behind_15 ?_
    exact wfX4_behind_b18 X v1 v2 q2.1 _ z h
  · replace h := (if_pos c1).symm.trans h
    refine Rt.iconst (-1) dX4_behind_7 (by decide) ?_
    refine Rt.goto 18 dX4_behind_8 (by decide) ?_
    exact wfX4_behind_b18 X v1 v2 (-1 : Int32) _ z h
set_option maxRecDepth 100000 in
set_option maxHeartbeats 4000000 in
theorem mfX4_behind (v1 : Int32) (v2 : Int32) (σ : Sto) (z : Int32 × Sto) (h : fX4_behind v1 v2 σ = some z) : AM yX4_behind cX4_behind 5 (some .int) 6 126 [.ref 17, .int v1, .int v2] σ (some (.int z.1)) z.2 := AM.int rfl (Nat.le_of_ble_eq_true rfl) (fun X => wfX4_behind X v1 v2 σ z h)
-- fX4_held
def fX4_held (v0 : Int32) (v1 : Int32) (v2 : Int32) (σ : Sto) : Option (Int32 × Sto) := if v1 ≤ v0 then (if v0 ≤ v2 then (some (v0, σ)) else (some (v2, σ))) else (some (v1, σ))
set_option maxRecDepth 100000 in
set_option maxHeartbeats 4000000 in
theorem wfX4_held (X : Scr) (v0 : Int32) (v1 : Int32) (v2 : Int32) (σ : Sto) (z : Int32 × Sto) (h : fX4_held v0 v1 v2 σ = some z) : Rt X RX4 cX4_held 3 (rmA 0 0) .ireturn 0 [(0, .int v0), (1, .int v1), (2, .int v2)] [] σ (some (.int z.1)) z.2 := by
  unfold fX4_held at h
  refine Rt.iload_n 0 dX4_held_0 rfl ?_
  refine Rt.iload_n 1 dX4_held_1 rfl ?_
  refine Rt.icmp_ge 9 dX4_held_2 (by decide) (fun c1 => ?_) (fun c1 => ?_)
  · replace h := (if_pos c1).symm.trans h
    refine Rt.iload_n 0 dX4_held_9 rfl ?_
    refine Rt.iload_n 2 dX4_held_10 rfl ?_
    refine Rt.icmp_le 18 dX4_held_11 (by decide) (fun c2 => ?_) (fun c2 => ?_)
    · replace h := (if_pos c2).symm.trans h
      refine Rt.iload_n 0 dX4_held_18 rfl ?_
      obtain rfl := Option.some.inj h
      exact Rt.ret (v := some (.int v0)) dX4_held_19 rfl rfl rfl
    · replace h := (if_neg c2).symm.trans h
      refine Rt.iload_n 2 dX4_held_14 rfl ?_
      refine Rt.goto 19 dX4_held_15 (by decide) ?_
      obtain rfl := Option.some.inj h
      exact Rt.ret (v := some (.int v2)) dX4_held_19 rfl rfl rfl
  · replace h := (if_neg c1).symm.trans h
    refine Rt.iload_n 1 dX4_held_5 rfl ?_
    refine Rt.goto 19 dX4_held_6 (by decide) ?_
    obtain rfl := Option.some.inj h
    exact Rt.ret (v := some (.int v1)) dX4_held_19 rfl rfl rfl
set_option maxRecDepth 100000 in
set_option maxHeartbeats 4000000 in
theorem mfX4_held (v0 : Int32) (v1 : Int32) (v2 : Int32) (σ : Sto) (z : Int32 × Sto) (h : fX4_held v0 v1 v2 σ = some z) : AM yX4_held cX4_held 3 (some .int) 0 0 [.int v0, .int v1, .int v2] σ (some (.int z.1)) z.2 := AM.int rfl (Nat.le_of_ble_eq_true rfl) (fun X => wfX4_held X v0 v1 v2 σ z h)
-- fX4_readBy
def fX4_readBy_b174 (s0 : Int32) (s1 : Int32) (σ : Sto) : Option (Int32 × Sto) := (fX4_held s0 (0 : Int32) (5 : Int32) σ).bind fun q1 => some ((s1 + q1.1), q1.2)
set_option maxRecDepth 100000 in
set_option maxHeartbeats 4000000 in
theorem wfX4_readBy_b174 (X : Scr) (s0 : Int32) (s1 : Int32) (σ : Sto) (z : Int32 × Sto) (h : fX4_readBy_b174 s0 s1 σ = some z) : Rt X RX4 cX4_readBy 8 (rmA 1 22) .ireturn 174 [] [.int s0, .int s1] σ (some (.int z.1)) z.2 := by
  unfold fX4_readBy_b174 at h
  refine Rt.iconst 0 dX4_readBy_174 (by decide) ?_
  refine Rt.iconst 5 dX4_readBy_175 (by decide) ?_
  obtain ⟨q1, e1, h⟩ := bnd h
  refine Rt.cS (mfX4_held s0 (0 : Int32) (5 : Int32) _ q1 e1) lkX4_173 rfl ⟨Nat.le_of_ble_eq_true rfl, Nat.le_of_ble_eq_true rfl⟩ (Nat.le_of_ble_eq_true rfl) rfl dX4_readBy_176 ?_
  refine Rt.iadd dX4_readBy_179 ?_
  obtain rfl := Option.some.inj h
  exact Rt.ret (v := some (.int (s1 + q1.1))) dX4_readBy_180 rfl rfl rfl
def fX4_readBy_b158 (v4 : Int32) (v6 : Int32) (s0 : Int32) (s1 : Int32) (s2 : Int32) (σ : Sto) : Option (Int32 × Sto) := if s1 = s0 then (fX4_readBy_b174 (v6 - v4) s2 σ) else (fX4_readBy_b174 (v6 + v4) s2 σ)
set_option maxRecDepth 100000 in
set_option maxHeartbeats 4000000 in
theorem wfX4_readBy_b158 (X : Scr) (v4 : Int32) (v6 : Int32) (s0 : Int32) (s1 : Int32) (s2 : Int32) (σ : Sto) (z : Int32 × Sto) (h : fX4_readBy_b158 v4 v6 s0 s1 s2 σ = some z) : Rt X RX4 cX4_readBy 8 (rmA 1 22) .ireturn 158 [(4, .int v4), (6, .int v6)] [.int s0, .int s1, .int s2] σ (some (.int z.1)) z.2 := by
  unfold fX4_readBy_b158 at h
  refine Rt.icmp_ne 169 dX4_readBy_158 (by decide) (fun c10 => ?_) (fun c10 => ?_)
  · replace h := (if_neg c10).symm.trans h
    refine Rt.iload 1 dX4_readBy_169 rfl ?_
    refine Rt.iload 0 dX4_readBy_171 rfl ?_
    refine Rt.iadd dX4_readBy_173 ?_
    refine Rt.pick [] rfl ?_
    exact wfX4_readBy_b174 X (v6 + v4) s2 _ z h
  · replace h := (if_pos c10).symm.trans h
    refine Rt.iload 1 dX4_readBy_161 rfl ?_
    refine Rt.iload 0 dX4_readBy_163 rfl ?_
    refine Rt.isub dX4_readBy_165 ?_
    refine Rt.goto 174 dX4_readBy_166 (by decide) ?_
    refine Rt.pick [] rfl ?_
    exact wfX4_readBy_b174 X (v6 - v4) s2 _ z h
def fX4_readBy_b131 (v6 : Int32) (s0 : Int32) (s1 : Int32) (σ : Sto) : Option (Int32 × Sto) := (fX4_held s0 (0 : Int32) (3 : Int32) σ).bind fun q2 => some (((s1 * q2.1) + v6), q2.2)
set_option maxRecDepth 100000 in
set_option maxHeartbeats 4000000 in
theorem wfX4_readBy_b131 (X : Scr) (v6 : Int32) (s0 : Int32) (s1 : Int32) (σ : Sto) (z : Int32 × Sto) (h : fX4_readBy_b131 v6 s0 s1 σ = some z) : Rt X RX4 cX4_readBy 8 (rmA 1 22) .ireturn 131 [(6, .int v6)] [.int s0, .int s1] σ (some (.int z.1)) z.2 := by
  unfold fX4_readBy_b131 at h
  refine Rt.iconst 0 dX4_readBy_131 (by decide) ?_
  refine Rt.iconst 3 dX4_readBy_132 (by decide) ?_
  obtain ⟨q2, e2, h⟩ := bnd h
  refine Rt.cS (mfX4_held s0 (0 : Int32) (3 : Int32) _ q2 e2) lkX4_173 rfl ⟨Nat.le_of_ble_eq_true rfl, Nat.le_of_ble_eq_true rfl⟩ (Nat.le_of_ble_eq_true rfl) rfl dX4_readBy_133 ?_
  refine Rt.imul dX4_readBy_136 ?_
  refine Rt.iload 0 dX4_readBy_137 rfl ?_
  refine Rt.iadd dX4_readBy_139 ?_
  obtain rfl := Option.some.inj h
  exact Rt.ret (v := some (.int ((s1 * q2.1) + v6))) dX4_readBy_140 rfl rfl rfl
def fX4_readBy_b101 (v1 : Int32) (v2 : Int32) (v4 : Int32) (v5 : Int32) (v6 : Int32) (s0 : Int32) (σ : Sto) : Option (Int32 × Sto) := if (irm (v2 / (2 : Int32)) (2 : Int32)) = 0 then (if s0 = 0 then (fX4_readBy_b131 v6 (v5 + v4) (6 : Int32) σ) else (fX4_readBy_b131 v6 (v5 - v4) (6 : Int32) σ)) else (if v1 = (3 : Int32) then (fX4_readBy_b158 v4 v6 (0 : Int32) s0 ((6 : Int32) * v5) σ) else (fX4_readBy_b158 v4 v6 (1 : Int32) s0 ((6 : Int32) * v5) σ))
set_option maxRecDepth 100000 in
set_option maxHeartbeats 4000000 in
theorem wfX4_readBy_b101 (X : Scr) (v1 : Int32) (v2 : Int32) (v4 : Int32) (v5 : Int32) (v6 : Int32) (s0 : Int32) (σ : Sto) (z : Int32 × Sto) (h : fX4_readBy_b101 v1 v2 v4 v5 v6 s0 σ = some z) : Rt X RX4 cX4_readBy 8 (rmA 1 22) .ireturn 101 [(1, .int v1), (2, .int v2), (4, .int v4), (5, .int v5), (6, .int v6)] [.int s0] σ (some (.int z.1)) z.2 := by
  unfold fX4_readBy_b101 at h
  refine Rt.istore [(7, _), (1, _), (2, _), (4, _), (5, _), (6, _)] dX4_readBy_101 (by decide) rfl ?_
  refine Rt.iload_n 2 dX4_readBy_103 rfl ?_
  refine Rt.iconst 2 dX4_readBy_104 (by decide) ?_
  refine Rt.idiv dX4_readBy_105 (by decide) ?_
  refine Rt.iconst 2 dX4_readBy_106 (by decide) ?_
  refine Rt.rem dX4_readBy_107 (by decide) ?_
  refine Rt.if_ne 141 dX4_readBy_108 (by decide) (fun c8 => ?_) (fun c8 => ?_)
  · replace h := (if_neg c8).symm.trans h
    refine Rt.bipush 6 dX4_readBy_141 (by decide) ?_
    refine Rt.iload 4 dX4_readBy_143 rfl ?_
    refine Rt.imul dX4_readBy_145 ?_
    refine Rt.iload 0 dX4_readBy_146 rfl ?_
    refine Rt.iload_n 1 dX4_readBy_148 rfl ?_
    refine Rt.iconst 3 dX4_readBy_149 (by decide) ?_
    refine Rt.icmp_eq 157 dX4_readBy_150 (by decide) (fun c9 => ?_) (fun c9 => ?_)
    · replace h := (if_pos c9).symm.trans h
      refine Rt.iconst 0 dX4_readBy_157 (by decide) ?_
      refine Rt.pick [3, 5] rfl ?_
      exact wfX4_readBy_b158 X v4 v6 (0 : Int32) s0 ((6 : Int32) * v5) _ z h
    · replace h := (if_neg c9).symm.trans h
      refine Rt.iconst 1 dX4_readBy_153 (by decide) ?_
      refine Rt.goto 158 dX4_readBy_154 (by decide) ?_
      refine Rt.pick [3, 5] rfl ?_
      exact wfX4_readBy_b158 X v4 v6 (1 : Int32) s0 ((6 : Int32) * v5) _ z h
  · replace h := (if_pos c8).symm.trans h
    refine Rt.bipush 6 dX4_readBy_111 (by decide) ?_
    refine Rt.iload 0 dX4_readBy_113 rfl ?_
    refine Rt.if_eq 126 dX4_readBy_115 (by decide) (fun c11 => ?_) (fun c11 => ?_)
    · replace h := (if_pos c11).symm.trans h
      refine Rt.iload 4 dX4_readBy_126 rfl ?_
      refine Rt.iload 3 dX4_readBy_128 rfl ?_
      refine Rt.iadd dX4_readBy_130 ?_
      refine Rt.pick [5] rfl ?_
      exact wfX4_readBy_b131 X v6 (v5 + v4) (6 : Int32) _ z h
    · replace h := (if_neg c11).symm.trans h
      refine Rt.iload 4 dX4_readBy_118 rfl ?_
      refine Rt.iload 3 dX4_readBy_120 rfl ?_
      refine Rt.isub dX4_readBy_122 ?_
      refine Rt.goto 131 dX4_readBy_123 (by decide) ?_
      refine Rt.pick [5] rfl ?_
      exact wfX4_readBy_b131 X v6 (v5 - v4) (6 : Int32) _ z h
def fX4_readBy_b72 (v1 : Int32) (v2 : Int32) (v4 : Int32) (σ : Sto) : Option (Int32 × Sto) := if (irm v2 (2 : Int32)) = 0 then (fX4_readBy_b101 v1 v2 v4 ((σ 17 5) / (6 : Int32)) (irm (σ 17 5) (6 : Int32)) (1 : Int32) σ) else (fX4_readBy_b101 v1 v2 v4 ((σ 17 5) / (6 : Int32)) (irm (σ 17 5) (6 : Int32)) (0 : Int32) σ)
set_option maxRecDepth 100000 in
set_option maxHeartbeats 4000000 in
theorem wfX4_readBy_b72 (X : Scr) (v1 : Int32) (v2 : Int32) (v4 : Int32) (σ : Sto) (z : Int32 × Sto) (h : fX4_readBy_b72 v1 v2 v4 σ = some z) : Rt X RX4 cX4_readBy 8 (rmA 1 22) .ireturn 72 [(0, .ref 17), (1, .int v1), (2, .int v2), (4, .int v4)] [] σ (some (.int z.1)) z.2 := by
  unfold fX4_readBy_b72 at h
  refine Rt.aload_n 0 dX4_readBy_72 rfl ?_
  refine gfX4_142 ly17 dX4_readBy_73 ?_
  refine Rt.bipush 6 dX4_readBy_76 (by decide) ?_
  refine Rt.idiv dX4_readBy_78 (by decide) ?_
  refine Rt.istore [(5, _), (0, _), (1, _), (2, _), (4, _)] dX4_readBy_79 (by decide) rfl ?_
  refine Rt.aload_n 1 dX4_readBy_81 rfl ?_
  refine gfX4_142 ly17 dX4_readBy_82 ?_
  refine Rt.bipush 6 dX4_readBy_85 (by decide) ?_
  refine Rt.rem dX4_readBy_87 (by decide) ?_
  refine Rt.istore [(6, _), (5, _), (0, _), (1, _), (2, _), (4, _)] dX4_readBy_88 (by decide) rfl ?_
  refine Rt.iload_n 4 dX4_readBy_90 rfl ?_
  refine Rt.iconst 2 dX4_readBy_91 (by decide) ?_
  refine Rt.rem dX4_readBy_92 (by decide) ?_
  refine Rt.if_ne 100 dX4_readBy_93 (by decide) (fun c7 => ?_) (fun c7 => ?_)
  · replace h := (if_neg c7).symm.trans h
    refine Rt.iconst 0 dX4_readBy_100 (by decide) ?_
    refine Rt.pick [3, 4, 5, 1, 0] rfl ?_
    exact wfX4_readBy_b101 X v1 v2 v4 ((σ 17 5) / (6 : Int32)) (irm (σ 17 5) (6 : Int32)) (0 : Int32) _ z h
  · replace h := (if_pos c7).symm.trans h
    refine Rt.iconst 1 dX4_readBy_96 (by decide) ?_
    refine Rt.goto 101 dX4_readBy_97 (by decide) ?_
    refine Rt.pick [3, 4, 5, 1, 0] rfl ?_
    exact wfX4_readBy_b101 X v1 v2 v4 ((σ 17 5) / (6 : Int32)) (irm (σ 17 5) (6 : Int32)) (1 : Int32) _ z h
def fX4_readBy_b61 (v1 : Int32) (v2 : Int32) (v4 : Int32) (σ : Sto) : Option (Int32 × Sto) := if v1 = (2 : Int32) then (fX4_readBy_b72 v1 v2 (v4 * (2 : Int32)) σ) else (fX4_readBy_b72 v1 v2 v4 σ)
set_option maxRecDepth 100000 in
set_option maxHeartbeats 4000000 in
theorem wfX4_readBy_b61 (X : Scr) (v1 : Int32) (v2 : Int32) (v4 : Int32) (σ : Sto) (z : Int32 × Sto) (h : fX4_readBy_b61 v1 v2 v4 σ = some z) : Rt X RX4 cX4_readBy 8 (rmA 1 22) .ireturn 61 [(0, .ref 17), (1, .int v1), (2, .int v2), (4, .int v4)] [] σ (some (.int z.1)) z.2 := by
  unfold fX4_readBy_b61 at h
  refine Rt.iload_n 1 dX4_readBy_61 rfl ?_
  refine Rt.iconst 2 dX4_readBy_62 (by decide) ?_
  refine Rt.icmp_ne 72 dX4_readBy_63 (by decide) (fun c6 => ?_) (fun c6 => ?_)
  · replace h := (if_neg c6).symm.trans h
    exact wfX4_readBy_b72 X v1 v2 v4 _ z h
  · replace h := (if_pos c6).symm.trans h
    refine Rt.iload 3 dX4_readBy_66 rfl ?_
    refine Rt.iconst 2 dX4_readBy_68 (by decide) ?_
    refine Rt.imul dX4_readBy_69 ?_
    refine Rt.istore [(4, _), (0, _), (1, _), (2, _)] dX4_readBy_70 (by decide) rfl ?_
    refine Rt.pick [1, 2, 3, 0] rfl ?_
    exact wfX4_readBy_b72 X v1 v2 (v4 * (2 : Int32)) _ z h
def fX4_readBy_b58 (v1 : Int32) (v2 : Int32) (σ : Sto) : Option (Int32 × Sto) := fX4_readBy_b61 v1 v2 (1 : Int32) σ
set_option maxRecDepth 100000 in
set_option maxHeartbeats 4000000 in
theorem wfX4_readBy_b58 (X : Scr) (v1 : Int32) (v2 : Int32) (σ : Sto) (z : Int32 × Sto) (h : fX4_readBy_b58 v1 v2 σ = some z) : Rt X RX4 cX4_readBy 8 (rmA 1 22) .ireturn 58 [(0, .ref 17), (1, .int v1), (2, .int v2)] [] σ (some (.int z.1)) z.2 := by
  unfold fX4_readBy_b58 at h
  refine Rt.iconst 1 dX4_readBy_58 (by decide) ?_
  refine Rt.istore [(4, _), (0, _), (1, _), (2, _)] dX4_readBy_59 (by decide) rfl ?_
  refine Rt.pick [1, 2, 3, 0] rfl ?_
  exact wfX4_readBy_b61 X v1 v2 (1 : Int32) _ z h
def fX4_readBy_b41 (v1 : Int32) (v2 : Int32) (s0 : Int32) (σ : Sto) : Option (Int32 × Sto) := if v1 = (1 : Int32) then (fX4_readBy_b58 v1 v2 σ) else (if v1 = (4 : Int32) then (if (4 : Int32) ≤ v2 then (fX4_readBy_b61 v1 v2 s0 σ) else (fX4_readBy_b58 v1 v2 σ)) else (fX4_readBy_b61 v1 v2 s0 σ))
set_option maxRecDepth 100000 in
set_option maxHeartbeats 4000000 in
theorem wfX4_readBy_b41 (X : Scr) (v1 : Int32) (v2 : Int32) (s0 : Int32) (σ : Sto) (z : Int32 × Sto) (h : fX4_readBy_b41 v1 v2 s0 σ = some z) : Rt X RX4 cX4_readBy 8 (rmA 1 22) .ireturn 41 [(0, .ref 17), (1, .int v1), (2, .int v2)] [.int s0] σ (some (.int z.1)) z.2 := by
  unfold fX4_readBy_b41 at h
  refine Rt.istore [(4, _), (0, _), (1, _), (2, _)] dX4_readBy_41 (by decide) rfl ?_
  refine Rt.iload_n 2 dX4_readBy_43 rfl ?_
  refine Rt.iconst 1 dX4_readBy_44 (by decide) ?_
  refine Rt.icmp_eq 58 dX4_readBy_45 (by decide) (fun c5 => ?_) (fun c5 => ?_)
  · replace h := (if_pos c5).symm.trans h
    refine Rt.pick [1, 2, 3] rfl ?_
    exact wfX4_readBy_b58 X v1 v2 _ z h
  · replace h := (if_neg c5).symm.trans h
    refine Rt.iload_n 2 dX4_readBy_48 rfl ?_
    refine Rt.iconst 4 dX4_readBy_49 (by decide) ?_
    refine Rt.icmp_ne 61 dX4_readBy_50 (by decide) (fun c12 => ?_) (fun c12 => ?_)
    · replace h := (if_neg c12).symm.trans h
      refine Rt.pick [1, 2, 3, 0] rfl ?_
      exact wfX4_readBy_b61 X v1 v2 s0 _ z h
    · replace h := (if_pos c12).symm.trans h
      refine Rt.iload_n 3 dX4_readBy_53 rfl ?_
      refine Rt.iconst 4 dX4_readBy_54 (by decide) ?_
      refine Rt.icmp_ge 61 dX4_readBy_55 (by decide) (fun c13 => ?_) (fun c13 => ?_)
      · replace h := (if_pos c13).symm.trans h
        refine Rt.pick [1, 2, 3, 0] rfl ?_
        exact wfX4_readBy_b61 X v1 v2 s0 _ z h
      · replace h := (if_neg c13).symm.trans h
        refine Rt.pick [1, 2, 3] rfl ?_
        exact wfX4_readBy_b58 X v1 v2 _ z h
def fX4_readBy (v1 : Int32) (v2 : Int32) (v3 : Int32) (σ : Sto) : Option (Int32 × Sto) := if v1 = (5 : Int32) then (some ((irm v3 (24 : Int32)), σ)) else (if v2 = (8 : Int32) then (some ((σ 17 5), σ)) else (if v2 ≤ (3 : Int32) then (if inb (1 : Int32) 4 = true then (fX4_readBy_b41 v1 v2 (σ 20 ((1 : Int32)).toNatClampNeg) σ) else none) else (if inb (2 : Int32) 4 = true then (fX4_readBy_b41 v1 v2 (σ 20 ((2 : Int32)).toNatClampNeg) σ) else none)))
set_option maxRecDepth 100000 in
set_option maxHeartbeats 4000000 in
theorem wfX4_readBy (X : Scr) (v1 : Int32) (v2 : Int32) (v3 : Int32) (σ : Sto) (z : Int32 × Sto) (h : fX4_readBy v1 v2 v3 σ = some z) : Rt X RX4 cX4_readBy 8 (rmA 1 22) .ireturn 0 [(0, .ref 17), (1, .int v1), (2, .int v2), (3, .int v3)] [] σ (some (.int z.1)) z.2 := by
  unfold fX4_readBy at h
  refine Rt.iload_n 1 dX4_readBy_0 rfl ?_
  refine Rt.iconst 5 dX4_readBy_1 (by decide) ?_
  refine Rt.icmp_ne 10 dX4_readBy_2 (by decide) (fun c1 => ?_) (fun c1 => ?_)
  · replace h := (if_neg c1).symm.trans h
    refine Rt.iload_n 2 dX4_readBy_10 rfl ?_
    refine Rt.bipush 8 dX4_readBy_11 (by decide) ?_
    refine Rt.icmp_ne 21 dX4_readBy_13 (by decide) (fun c2 => ?_) (fun c2 => ?_)
    · replace h := (if_neg c2).symm.trans h
      refine Rt.iload_n 2 dX4_readBy_21 rfl ?_
      refine Rt.iconst 3 dX4_readBy_22 (by decide) ?_
      refine Rt.icmp_le 35 dX4_readBy_23 (by decide) (fun c3 => ?_) (fun c3 => ?_)
      · replace h := (if_pos c3).symm.trans h
        refine Rt.aload_n 0 dX4_readBy_35 rfl ?_
        refine gfX4_16 ly17 dX4_readBy_36 ?_
        refine Rt.iconst 1 dX4_readBy_39 (by decide) ?_
        obtain ⟨g4, h⟩ := gd h
        refine Rt.iald ly20 g4 dX4_readBy_40 ?_
        refine Rt.pick [0, 1, 2] rfl ?_
        exact wfX4_readBy_b41 X v1 v2 (σ 20 ((1 : Int32)).toNatClampNeg) _ z h
      · replace h := (if_neg c3).symm.trans h
        refine Rt.aload_n 0 dX4_readBy_26 rfl ?_
        refine gfX4_16 ly17 dX4_readBy_27 ?_
        refine Rt.iconst 2 dX4_readBy_30 (by decide) ?_
        obtain ⟨g14, h⟩ := gd h
        refine Rt.iald ly20 g14 dX4_readBy_31 ?_
        refine Rt.goto 41 dX4_readBy_32 (by decide) ?_
        refine Rt.pick [0, 1, 2] rfl ?_
        exact wfX4_readBy_b41 X v1 v2 (σ 20 ((2 : Int32)).toNatClampNeg) _ z h
    · replace h := (if_pos c2).symm.trans h
      refine Rt.aload_n 0 dX4_readBy_16 rfl ?_
      refine gfX4_142 ly17 dX4_readBy_17 ?_
      obtain rfl := Option.some.inj h
      exact Rt.ret (v := some (.int (σ 17 5))) dX4_readBy_20 rfl rfl rfl
  · replace h := (if_pos c1).symm.trans h
    refine Rt.iload_n 3 dX4_readBy_5 rfl ?_
    refine Rt.bipush 24 dX4_readBy_6 (by decide) ?_
    refine Rt.rem dX4_readBy_8 (by decide) ?_
    obtain rfl := Option.some.inj h
    exact Rt.ret (v := some (.int (irm v3 (24 : Int32)))) dX4_readBy_9 rfl rfl rfl
set_option maxRecDepth 100000 in
set_option maxHeartbeats 4000000 in
theorem mfX4_readBy (v1 : Int32) (v2 : Int32) (v3 : Int32) (σ : Sto) (z : Int32 × Sto) (h : fX4_readBy v1 v2 v3 σ = some z) : AM yX4_readBy cX4_readBy 8 (some .int) 1 22 [.ref 17, .int v1, .int v2, .int v3] σ (some (.int z.1)) z.2 := AM.int rfl (Nat.le_of_ble_eq_true rfl) (fun X => wfX4_readBy X v1 v2 v3 σ z h)
-- fX4_reads
def fX4_reads_b34 (v1 : Int32) (v2 : Int32) (v3 : Int32) (s0 : Int32) (σ : Sto) : Option (Int32 × Sto) := if s0 = 0 then ((fX4_readBy v1 v2 v3 σ).bind fun q2 => some (q2.1, q2.2)) else ((fX4_no s0 σ).bind fun q3 => some (q3.1, q3.2))
set_option maxRecDepth 100000 in
set_option maxHeartbeats 4000000 in
theorem wfX4_reads_b34 (X : Scr) (v1 : Int32) (v2 : Int32) (v3 : Int32) (s0 : Int32) (σ : Sto) (z : Int32 × Sto) (h : fX4_reads_b34 v1 v2 v3 s0 σ = some z) : Rt X RX4 cX4_reads 5 (rmA 2 49) .ireturn 34 [(0, .ref 17), (1, .int v1), (2, .int v2), (3, .int v3)] [.int s0] σ (some (.int z.1)) z.2 := by
  unfold fX4_reads_b34 at h
  refine Rt.istore [(4, _), (0, _), (1, _), (2, _), (3, _)] dX4_reads_34 (by decide) rfl ?_
  refine Rt.iload 0 dX4_reads_36 rfl ?_
  refine Rt.if_eq 50 dX4_reads_38 (by decide) (fun c2 => ?_) (fun c2 => ?_)
  · replace h := (if_pos c2).symm.trans h
    refine Rt.aload_n 1 dX4_reads_50 rfl ?_
    refine Rt.iload_n 2 dX4_reads_51 rfl ?_
    refine Rt.iload_n 3 dX4_reads_52 rfl ?_
    refine Rt.iload_n 4 dX4_reads_53 rfl ?_
    obtain ⟨q2, e2, h⟩ := bnd h
    refine Rt.cV (mfX4_readBy v1 v2 v3 _ q2 e2) lkX4_176 ly17 rfl rfl rfl ⟨Nat.le_of_ble_eq_true rfl, Nat.le_of_ble_eq_true rfl⟩ (Nat.le_of_ble_eq_true rfl) rfl dX4_reads_54 ?_
    obtain rfl := Option.some.inj h
    exact Rt.ret (v := some (.int q2.1)) dX4_reads_57 rfl rfl rfl
  · replace h := (if_neg c2).symm.trans h
    refine Rt.aload_n 1 dX4_reads_41 rfl ?_
    refine Rt.iload 0 dX4_reads_42 rfl ?_
    obtain ⟨q3, e3, h⟩ := bnd h
    refine Rt.cV (mfX4_no s0 _ q3 e3) lkX4_60 ly17 rfl rfl rfl ⟨Nat.le_of_ble_eq_true rfl, Nat.le_of_ble_eq_true rfl⟩ (Nat.le_of_ble_eq_true rfl) rfl dX4_reads_44 ?_
    refine Rt.goto 57 dX4_reads_47 (by decide) ?_
    obtain rfl := Option.some.inj h
    exact Rt.ret (v := some (.int q3.1)) dX4_reads_57 rfl rfl rfl
def fX4_reads_b19 (v1 : Int32) (v2 : Int32) (v3 : Int32) (σ : Sto) : Option (Int32 × Sto) := fX4_reads_b34 v1 v2 v3 (-2 : Int32) σ
set_option maxRecDepth 100000 in
set_option maxHeartbeats 4000000 in
theorem wfX4_reads_b19 (X : Scr) (v1 : Int32) (v2 : Int32) (v3 : Int32) (σ : Sto) (z : Int32 × Sto) (h : fX4_reads_b19 v1 v2 v3 σ = some z) : Rt X RX4 cX4_reads 5 (rmA 2 49) .ireturn 19 [(0, .ref 17), (1, .int v1), (2, .int v2), (3, .int v3)] [] σ (some (.int z.1)) z.2 := by
  unfold fX4_reads_b19 at h
  refine Rt.bipush (-2) dX4_reads_19 (by decide) ?_
  refine Rt.goto 34 dX4_reads_21 (by decide) ?_
  exact wfX4_reads_b34 X v1 v2 v3 (-2 : Int32) _ z h
def fX4_reads (v1 : Int32) (v2 : Int32) (v3 : Int32) (σ : Sto) : Option (Int32 × Sto) := (fX4_isIn v1 (0 : Int32) (5 : Int32) σ).bind fun q1 => if q1.1 = 0 then (fX4_reads_b19 v1 v2 v3 q1.2) else ((fX4_isIn v2 (0 : Int32) (8 : Int32) q1.2).bind fun q4 => if q4.1 = 0 then (fX4_reads_b19 v1 v2 v3 q4.2) else (if 0 ≤ v3 then (fX4_reads_b34 v1 v2 v3 (0 : Int32) q4.2) else (fX4_reads_b34 v1 v2 v3 (-4 : Int32) q4.2)))
set_option maxRecDepth 100000 in
set_option maxHeartbeats 4000000 in
theorem wfX4_reads (X : Scr) (v1 : Int32) (v2 : Int32) (v3 : Int32) (σ : Sto) (z : Int32 × Sto) (h : fX4_reads v1 v2 v3 σ = some z) : Rt X RX4 cX4_reads 5 (rmA 2 49) .ireturn 0 [(0, .ref 17), (1, .int v1), (2, .int v2), (3, .int v3)] [] σ (some (.int z.1)) z.2 := by
  unfold fX4_reads at h
  refine Rt.iload_n 1 dX4_reads_0 rfl ?_
  refine Rt.iconst 0 dX4_reads_1 (by decide) ?_
  refine Rt.iconst 5 dX4_reads_2 (by decide) ?_
  obtain ⟨q1, e1, h⟩ := bnd h
  refine Rt.cS (mfX4_isIn v1 (0 : Int32) (5 : Int32) _ q1 e1) lkX4_71 rfl ⟨Nat.le_of_ble_eq_true rfl, Nat.le_of_ble_eq_true rfl⟩ (Nat.le_of_ble_eq_true rfl) rfl dX4_reads_3 ?_
  refine Rt.if_eq 19 dX4_reads_6 (by decide) (fun c1 => ?_) (fun c1 => ?_)
  · replace h := (if_pos c1).symm.trans h
    exact wfX4_reads_b19 X v1 v2 v3 _ z h
  · replace h := (if_neg c1).symm.trans h
    refine Rt.iload_n 2 dX4_reads_9 rfl ?_
    refine Rt.iconst 0 dX4_reads_10 (by decide) ?_
    refine Rt.bipush 8 dX4_reads_11 (by decide) ?_
    obtain ⟨q4, e4, h⟩ := bnd h
    refine Rt.cS (mfX4_isIn v2 (0 : Int32) (8 : Int32) _ q4 e4) lkX4_71 rfl ⟨Nat.le_of_ble_eq_true rfl, Nat.le_of_ble_eq_true rfl⟩ (Nat.le_of_ble_eq_true rfl) rfl dX4_reads_13 ?_
    refine Rt.if_ne 24 dX4_reads_16 (by decide) (fun c3 => ?_) (fun c3 => ?_)
    · replace h := (if_neg c3).symm.trans h
      refine Rt.iload_n 3 dX4_reads_24 rfl ?_
      refine Rt.if_ge 33 dX4_reads_25 (by decide) (fun c4 => ?_) (fun c4 => ?_)
      · replace h := (if_pos c4).symm.trans h
        refine Rt.iconst 0 dX4_reads_33 (by decide) ?_
        exact wfX4_reads_b34 X v1 v2 v3 (0 : Int32) _ z h
      · replace h := (if_neg c4).symm.trans h
        refine Rt.bipush (-4) dX4_reads_28 (by decide) ?_
        refine Rt.goto 34 dX4_reads_30 (by decide) ?_
        exact wfX4_reads_b34 X v1 v2 v3 (-4 : Int32) _ z h
    · replace h := (if_pos c3).symm.trans h
      exact wfX4_reads_b19 X v1 v2 v3 _ z h
set_option maxRecDepth 100000 in
set_option maxHeartbeats 4000000 in
theorem mfX4_reads (v1 : Int32) (v2 : Int32) (v3 : Int32) (σ : Sto) (z : Int32 × Sto) (h : fX4_reads v1 v2 v3 σ = some z) : AM yX4_reads cX4_reads 5 (some .int) 2 49 [.ref 17, .int v1, .int v2, .int v3] σ (some (.int z.1)) z.2 := AM.int rfl (Nat.le_of_ble_eq_true rfl) (fun X => wfX4_reads X v1 v2 v3 σ z h)
-- fX4_followBy
def fX4_followBy_b66 (s0 : Int32) (σ : Sto) : Option (Int32 × Sto) := (fX4_passesAll (1 : Int32) (0 : Int32) σ).bind fun q2 => some (s0, q2.2)
set_option maxRecDepth 100000 in
set_option maxHeartbeats 4000000 in
theorem wfX4_followBy_b66 (X : Scr) (s0 : Int32) (σ : Sto) (z : Int32 × Sto) (h : fX4_followBy_b66 s0 σ = some z) : Rt X RX4 cX4_followBy 4 (rmA 6 126) .ireturn 66 [(0, .ref 17)] [.int s0] σ (some (.int z.1)) z.2 := by
  unfold fX4_followBy_b66 at h
  refine Rt.istore_n [(3, _), (0, _)] dX4_followBy_66 (by decide) rfl ?_
  refine Rt.aload_n 1 dX4_followBy_67 rfl ?_
  refine Rt.iconst 1 dX4_followBy_68 (by decide) ?_
  refine Rt.iconst 0 dX4_followBy_69 (by decide) ?_
  obtain ⟨q2, e2, h⟩ := bnd h
  refine Rt.cV0 (mfX4_passesAll (1 : Int32) (0 : Int32) _ q2 e2) lkX4_121 ly17 rfl rfl rfl ⟨Nat.le_of_ble_eq_true rfl, Nat.le_of_ble_eq_true rfl⟩ (Nat.le_of_ble_eq_true rfl) rfl dX4_followBy_70 ?_
  refine Rt.iload_n 0 dX4_followBy_73 rfl ?_
  obtain rfl := Option.some.inj h
  exact Rt.ret (v := some (.int s0)) dX4_followBy_74 rfl rfl rfl
def fX4_followBy_b51 (v2 : Int32) (σ : Sto) : Option (Int32 × Sto) := if (σ 17 4) = (24 : Int32) then (fX4_followBy_b66 v2 σ) else (fX4_followBy_b66 (-9 : Int32) σ)
set_option maxRecDepth 100000 in
set_option maxHeartbeats 4000000 in
theorem wfX4_followBy_b51 (X : Scr) (v2 : Int32) (σ : Sto) (z : Int32 × Sto) (h : fX4_followBy_b51 v2 σ = some z) : Rt X RX4 cX4_followBy 4 (rmA 6 126) .ireturn 51 [(0, .ref 17), (2, .int v2)] [] σ (some (.int z.1)) z.2 := by
  unfold fX4_followBy_b51 at h
  refine Rt.aload_n 0 dX4_followBy_51 rfl ?_
  refine gfX4_101 ly17 dX4_followBy_52 ?_
  refine Rt.bipush 24 dX4_followBy_55 (by decide) ?_
  refine Rt.icmp_ne 64 dX4_followBy_57 (by decide) (fun c2 => ?_) (fun c2 => ?_)
  · replace h := (if_neg c2).symm.trans h
    refine Rt.bipush (-9) dX4_followBy_64 (by decide) ?_
    refine Rt.pick [0] rfl ?_
    exact wfX4_followBy_b66 X (-9 : Int32) _ z h
  · replace h := (if_pos c2).symm.trans h
    refine Rt.iload_n 1 dX4_followBy_60 rfl ?_
    refine Rt.goto 66 dX4_followBy_61 (by decide) ?_
    refine Rt.pick [0] rfl ?_
    exact wfX4_followBy_b66 X v2 _ z h
def fX4_followBy_l8 : Nat → Int32 → Int32 → Sto → Option (Int32 × Sto)
  | 0, _, _, _ => none
  | n + 1, v1, v2, σ => if (σ 17 4) = (24 : Int32) then (fX4_followBy_b51 v2 σ) else (if (40 : Int32) ≤ v2 then (fX4_followBy_b51 v2 σ) else ((fX4_wordFrom (σ 17 5) (σ 17 4) σ).bind fun q3 => (fX4_readBy v1 q3.1 v2 q3.2).bind fun q4 => (fX4_strokes q4.1 q4.2).bind fun q5 => fX4_followBy_l8 n v1 (v2 + (1 : Int32)) q5.2))
set_option maxRecDepth 100000 in
set_option maxHeartbeats 4000000 in
theorem wfX4_followBy_l8 (X : Scr) : ∀ (n : Nat) (v1 : Int32) (v2 : Int32) (σ : Sto) (z : Int32 × Sto), fX4_followBy_l8 n v1 v2 σ = some z → Rt X RX4 cX4_followBy 4 (rmA 6 126) .ireturn 8 [(0, .ref 17), (1, .int v1), (2, .int v2)] [] σ (some (.int z.1)) z.2 := by
  intro n
  induction n with
  | zero =>
    intro v1 v2 σ z h
    rw [fX4_followBy_l8] at h
    cases h
  | succ n ih =>
    intro v1 v2 σ z h
    rw [fX4_followBy_l8] at h
    refine Rt.aload_n 0 dX4_followBy_8 rfl ?_
    refine gfX4_101 ly17 dX4_followBy_9 ?_
    refine Rt.bipush 24 dX4_followBy_12 (by decide) ?_
    refine Rt.icmp_eq 51 dX4_followBy_14 (by decide) (fun c1 => ?_) (fun c1 => ?_)
    · replace h := (if_pos c1).symm.trans h
      refine Rt.pick [0, 2] rfl ?_
      exact wfX4_followBy_b51 X v2 _ z h
    · replace h := (if_neg c1).symm.trans h
      refine Rt.iload_n 2 dX4_followBy_17 rfl ?_
      refine Rt.bipush 40 dX4_followBy_18 (by decide) ?_
      refine Rt.icmp_ge 51 dX4_followBy_20 (by decide) (fun c3 => ?_) (fun c3 => ?_)
      · replace h := (if_pos c3).symm.trans h
        refine Rt.pick [0, 2] rfl ?_
        exact wfX4_followBy_b51 X v2 _ z h
      · replace h := (if_neg c3).symm.trans h
        refine Rt.aload_n 0 dX4_followBy_23 rfl ?_
        refine Rt.aload_n 0 dX4_followBy_24 rfl ?_
        refine Rt.iload_n 1 dX4_followBy_25 rfl ?_
        refine Rt.aload_n 0 dX4_followBy_26 rfl ?_
        refine Rt.aload_n 0 dX4_followBy_27 rfl ?_
        refine gfX4_142 ly17 dX4_followBy_28 ?_
        refine Rt.aload_n 0 dX4_followBy_31 rfl ?_
        refine gfX4_101 ly17 dX4_followBy_32 ?_
        obtain ⟨q3, e3, h⟩ := bnd h
        refine Rt.cV (mfX4_wordFrom (σ 17 5) (σ 17 4) _ q3 e3) lkX4_170 ly17 rfl rfl rfl ⟨Nat.le_of_ble_eq_true rfl, Nat.le_of_ble_eq_true rfl⟩ (Nat.le_of_ble_eq_true rfl) rfl dX4_followBy_35 ?_
        refine Rt.iload_n 2 dX4_followBy_38 rfl ?_
        obtain ⟨q4, e4, h⟩ := bnd h
        refine Rt.cV (mfX4_readBy v1 q3.1 v2 _ q4 e4) lkX4_176 ly17 rfl rfl rfl ⟨Nat.le_of_ble_eq_true rfl, Nat.le_of_ble_eq_true rfl⟩ (Nat.le_of_ble_eq_true rfl) rfl dX4_followBy_39 ?_
        obtain ⟨q5, e5, h⟩ := bnd h
        refine Rt.cV0 (mfX4_strokes q4.1 _ q5 e5) lkX4_113 ly17 rfl rfl rfl ⟨Nat.le_of_ble_eq_true rfl, Nat.le_of_ble_eq_true rfl⟩ (Nat.le_of_ble_eq_true rfl) rfl dX4_followBy_42 ?_
        refine Rt.iinc [(2, _), (0, _), (1, _)] (v2 + (1 : Int32)) 2 dX4_followBy_45 rfl rfl (by decide) rfl ?_
        refine Rt.goto 8 dX4_followBy_48 (by decide) ?_
        refine Rt.pick [1, 2, 0] rfl ?_
        exact ih v1 (v2 + (1 : Int32)) _ z h
def fX4_followBy (v1 : Int32) (σ : Sto) : Option (Int32 × Sto) := (fX4_passesAll (1 : Int32) (1 : Int32) σ).bind fun q1 => fX4_followBy_l8 300 v1 (0 : Int32) q1.2
set_option maxRecDepth 100000 in
set_option maxHeartbeats 4000000 in
theorem wfX4_followBy (X : Scr) (v1 : Int32) (σ : Sto) (z : Int32 × Sto) (h : fX4_followBy v1 σ = some z) : Rt X RX4 cX4_followBy 4 (rmA 6 126) .ireturn 0 [(0, .ref 17), (1, .int v1)] [] σ (some (.int z.1)) z.2 := by
  unfold fX4_followBy at h
  refine Rt.aload_n 0 dX4_followBy_0 rfl ?_
  refine Rt.iconst 1 dX4_followBy_1 (by decide) ?_
  refine Rt.iconst 1 dX4_followBy_2 (by decide) ?_
  obtain ⟨q1, e1, h⟩ := bnd h
  refine Rt.cV0 (mfX4_passesAll (1 : Int32) (1 : Int32) _ q1 e1) lkX4_121 ly17 rfl rfl rfl ⟨Nat.le_of_ble_eq_true rfl, Nat.le_of_ble_eq_true rfl⟩ (Nat.le_of_ble_eq_true rfl) rfl dX4_followBy_3 ?_
  refine Rt.iconst 0 dX4_followBy_6 (by decide) ?_
  refine Rt.istore_n [(2, _), (0, _), (1, _)] dX4_followBy_7 (by decide) rfl ?_
  refine Rt.pick [1, 2, 0] rfl ?_
  exact wfX4_followBy_l8 X 300 v1 (0 : Int32) _ z h
set_option maxRecDepth 100000 in
set_option maxHeartbeats 4000000 in
theorem mfX4_followBy (v1 : Int32) (σ : Sto) (z : Int32 × Sto) (h : fX4_followBy v1 σ = some z) : AM yX4_followBy cX4_followBy 4 (some .int) 6 126 [.ref 17, .int v1] σ (some (.int z.1)) z.2 := AM.int rfl (Nat.le_of_ble_eq_true rfl) (fun X => wfX4_followBy X v1 σ z h)
-- fX4_follow
def fX4_follow (v1 : Int32) (σ : Sto) : Option (Int32 × Sto) := (fX4_isIn v1 (0 : Int32) (5 : Int32) σ).bind fun q1 => if q1.1 = 0 then ((fX4_no (-2 : Int32) q1.2).bind fun q2 => some (q2.1, q2.2)) else ((fX4_followBy v1 q1.2).bind fun q3 => some (q3.1, q3.2))
set_option maxRecDepth 100000 in
set_option maxHeartbeats 4000000 in
theorem wfX4_follow (X : Scr) (v1 : Int32) (σ : Sto) (z : Int32 × Sto) (h : fX4_follow v1 σ = some z) : Rt X RX4 cX4_follow 2 (rmA 7 149) .ireturn 0 [(0, .ref 17), (1, .int v1)] [] σ (some (.int z.1)) z.2 := by
  unfold fX4_follow at h
  refine Rt.iload_n 1 dX4_follow_0 rfl ?_
  refine Rt.iconst 0 dX4_follow_1 (by decide) ?_
  refine Rt.iconst 5 dX4_follow_2 (by decide) ?_
  obtain ⟨q1, e1, h⟩ := bnd h
  refine Rt.cS (mfX4_isIn v1 (0 : Int32) (5 : Int32) _ q1 e1) lkX4_71 rfl ⟨Nat.le_of_ble_eq_true rfl, Nat.le_of_ble_eq_true rfl⟩ (Nat.le_of_ble_eq_true rfl) rfl dX4_follow_3 ?_
  refine Rt.if_eq 17 dX4_follow_6 (by decide) (fun c1 => ?_) (fun c1 => ?_)
  · replace h := (if_pos c1).symm.trans h
    refine Rt.aload_n 0 dX4_follow_17 rfl ?_
    refine Rt.bipush (-2) dX4_follow_18 (by decide) ?_
    obtain ⟨q2, e2, h⟩ := bnd h
    refine Rt.cV (mfX4_no (-2 : Int32) _ q2 e2) lkX4_60 ly17 rfl rfl rfl ⟨Nat.le_of_ble_eq_true rfl, Nat.le_of_ble_eq_true rfl⟩ (Nat.le_of_ble_eq_true rfl) rfl dX4_follow_20 ?_
    obtain rfl := Option.some.inj h
    exact Rt.ret (v := some (.int q2.1)) dX4_follow_23 rfl rfl rfl
  · replace h := (if_neg c1).symm.trans h
    refine Rt.aload_n 0 dX4_follow_9 rfl ?_
    refine Rt.iload_n 1 dX4_follow_10 rfl ?_
    obtain ⟨q3, e3, h⟩ := bnd h
    refine Rt.cV (mfX4_followBy v1 _ q3 e3) lkX4_179 ly17 rfl rfl rfl ⟨Nat.le_of_ble_eq_true rfl, Nat.le_of_ble_eq_true rfl⟩ (Nat.le_of_ble_eq_true rfl) rfl dX4_follow_11 ?_
    refine Rt.goto 23 dX4_follow_14 (by decide) ?_
    obtain rfl := Option.some.inj h
    exact Rt.ret (v := some (.int q3.1)) dX4_follow_23 rfl rfl rfl
set_option maxRecDepth 100000 in
set_option maxHeartbeats 4000000 in
theorem mfX4_follow (v1 : Int32) (σ : Sto) (z : Int32 × Sto) (h : fX4_follow v1 σ = some z) : AM yX4_follow cX4_follow 2 (some .int) 7 149 [.ref 17, .int v1] σ (some (.int z.1)) z.2 := AM.int rfl (Nat.le_of_ble_eq_true rfl) (fun X => wfX4_follow X v1 σ z h)
-- fX4_lowest
def fX4_lowest (v1 : Int32) (σ : Sto) : Option (Int64 × Sto) := if inb (-v1) 7 = true then (if inb (-v1) 7 = true then (some (((4000000000000000000 : Int64) - ((v1).toInt64)), (upS σ 18 ((-v1)).toNatClampNeg ((σ 18 ((-v1)).toNatClampNeg) + (1 : Int32))))) else none) else none
set_option maxRecDepth 100000 in
set_option maxHeartbeats 4000000 in
theorem wfX4_lowest (X : Scr) (v1 : Int32) (σ : Sto) (z : Int64 × Sto) (h : fX4_lowest v1 σ = some z) : Rt X RX4 cX4_lowest 2 (rmA 0 0) .lreturn 0 [(0, .ref 17), (1, .int v1)] [] σ (some (.long z.1)) z.2 := by
  unfold fX4_lowest at h
  refine Rt.aload_n 0 dX4_lowest_0 rfl ?_
  refine gfX4_7 ly17 dX4_lowest_1 ?_
  refine Rt.iload_n 1 dX4_lowest_4 rfl ?_
  refine Rt.ineg dX4_lowest_5 ?_
  refine Rt.dup2 dX4_lowest_6 rfl rfl ?_
  obtain ⟨g1, h⟩ := gd h
  refine Rt.iald ly18 g1 dX4_lowest_7 ?_
  refine Rt.iconst 1 dX4_lowest_8 (by decide) ?_
  refine Rt.iadd dX4_lowest_9 ?_
  obtain ⟨g2, h⟩ := gd h
  refine Rt.iast ly18 g2 dX4_lowest_10 ?_
  refine Rt.ldc2 4000000000000000000 clX4_46 dX4_lowest_11 ?_
  refine Rt.iload_n 1 dX4_lowest_14 rfl ?_
  refine Rt.i2l dX4_lowest_15 ?_
  refine Rt.lsub dX4_lowest_16 ?_
  obtain rfl := Option.some.inj h
  exact Rt.ret (v := some (.long ((4000000000000000000 : Int64) - ((v1).toInt64)))) dX4_lowest_17 rfl rfl rfl
set_option maxRecDepth 100000 in
set_option maxHeartbeats 4000000 in
theorem mfX4_lowest (v1 : Int32) (σ : Sto) (z : Int64 × Sto) (h : fX4_lowest v1 σ = some z) : AM yX4_lowest cX4_lowest 2 (some .long) 0 0 [.ref 17, .int v1] σ (some (.long z.1)) z.2 := AM.long rfl (Nat.le_of_ble_eq_true rfl) (fun X => wfX4_lowest X v1 σ z h)
-- fX4_orElse
def fX4_orElse (v0 : Int32) (v1 : Int32) (σ : Sto) : Option (Int32 × Sto) := if 0 ≤ v0 then (some (v0, σ)) else (some (v1, σ))
set_option maxRecDepth 100000 in
set_option maxHeartbeats 4000000 in
theorem wfX4_orElse (X : Scr) (v0 : Int32) (v1 : Int32) (σ : Sto) (z : Int32 × Sto) (h : fX4_orElse v0 v1 σ = some z) : Rt X RX4 cX4_orElse 2 (rmA 0 0) .ireturn 0 [(0, .int v0), (1, .int v1)] [] σ (some (.int z.1)) z.2 := by
  unfold fX4_orElse at h
  refine Rt.iload_n 0 dX4_orElse_0 rfl ?_
  refine Rt.if_ge 8 dX4_orElse_1 (by decide) (fun c1 => ?_) (fun c1 => ?_)
  · replace h := (if_pos c1).symm.trans h
    refine Rt.iload_n 0 dX4_orElse_8 rfl ?_
    obtain rfl := Option.some.inj h
    exact Rt.ret (v := some (.int v0)) dX4_orElse_9 rfl rfl rfl
  · replace h := (if_neg c1).symm.trans h
    refine Rt.iload_n 1 dX4_orElse_4 rfl ?_
    refine Rt.goto 9 dX4_orElse_5 (by decide) ?_
    obtain rfl := Option.some.inj h
    exact Rt.ret (v := some (.int v1)) dX4_orElse_9 rfl rfl rfl
set_option maxRecDepth 100000 in
set_option maxHeartbeats 4000000 in
theorem mfX4_orElse (v0 : Int32) (v1 : Int32) (σ : Sto) (z : Int32 × Sto) (h : fX4_orElse v0 v1 σ = some z) : AM yX4_orElse cX4_orElse 2 (some .int) 0 0 [.int v0, .int v1] σ (some (.int z.1)) z.2 := AM.int rfl (Nat.le_of_ble_eq_true rfl) (fun X => wfX4_orElse X v0 v1 σ z h)
-- fX4_goesAll
def fX4_goesAll_b76 (k22 : Int32 → Int32 → Int32 → Int32 → Sto → Option (Unit × Sto)) (v1 : Int32) (v2 : Int32) (v3 : Int32) (v4 : Int32) (σ : Sto) : Option (Unit × Sto) := k22 v1 v2 v3 (v4 + (1 : Int32)) σ
set_option maxRecDepth 100000 in
set_option maxHeartbeats 4000000 in
theorem wfX4_goesAll_b76 (X : Scr) (k22 : Int32 → Int32 → Int32 → Int32 → Sto → Option (Unit × Sto)) (hk22 : ∀ (v1 : Int32) (v2 : Int32) (v3 : Int32) (v4 : Int32) (σ : Sto) (z : Unit × Sto), k22 v1 v2 v3 v4 σ = some z → Rt X RX4 cX4_goesAll 6 (rmA 7 149) .return_ 22 [(0, .ref 17), (1, .int v1), (2, .int v2), (3, .int v3), (4, .int v4)] [] σ none z.2) (v1 : Int32) (v2 : Int32) (v3 : Int32) (v4 : Int32) (σ : Sto) (z : Unit × Sto) (h : fX4_goesAll_b76 k22 v1 v2 v3 v4 σ = some z) : Rt X RX4 cX4_goesAll 6 (rmA 7 149) .return_ 76 [(0, .ref 17), (1, .int v1), (2, .int v2), (3, .int v3), (4, .int v4)] [] σ none z.2 := by
  unfold fX4_goesAll_b76 at h
  refine Rt.iinc [(4, _), (0, _), (1, _), (2, _), (3, _)] (v4 + (1 : Int32)) 4 dX4_goesAll_76 rfl rfl (by decide) rfl ?_
  refine Rt.goto 22 dX4_goesAll_79 (by decide) ?_
  refine Rt.pick [1, 2, 3, 4, 0] rfl ?_
  exact hk22 v1 v2 v3 (v4 + (1 : Int32)) _ z h
def fX4_goesAll_b58 (k22 : Int32 → Int32 → Int32 → Int32 → Sto → Option (Unit × Sto)) (v1 : Int32) (v2 : Int32) (v3 : Int32) (v4 : Int32) (v5 : Int32) (σ : Sto) : Option (Unit × Sto) := if v3 < v5 then (fX4_goesAll_b76 k22 v1 v2 v5 v4 (upS σ 17 19 v4)) else (fX4_goesAll_b76 k22 v1 v2 v3 v4 σ)
set_option maxRecDepth 100000 in
set_option maxHeartbeats 4000000 in
theorem wfX4_goesAll_b58 (X : Scr) (k22 : Int32 → Int32 → Int32 → Int32 → Sto → Option (Unit × Sto)) (hk22 : ∀ (v1 : Int32) (v2 : Int32) (v3 : Int32) (v4 : Int32) (σ : Sto) (z : Unit × Sto), k22 v1 v2 v3 v4 σ = some z → Rt X RX4 cX4_goesAll 6 (rmA 7 149) .return_ 22 [(0, .ref 17), (1, .int v1), (2, .int v2), (3, .int v3), (4, .int v4)] [] σ none z.2) (v1 : Int32) (v2 : Int32) (v3 : Int32) (v4 : Int32) (v5 : Int32) (σ : Sto) (z : Unit × Sto) (h : fX4_goesAll_b58 k22 v1 v2 v3 v4 v5 σ = some z) : Rt X RX4 cX4_goesAll 6 (rmA 7 149) .return_ 58 [(0, .ref 17), (1, .int v1), (2, .int v2), (3, .int v3), (4, .int v4), (5, .int v5)] [] σ none z.2 := by
  unfold fX4_goesAll_b58 at h
  refine Rt.iload 5 dX4_goesAll_58 rfl ?_
  refine Rt.iload_n 3 dX4_goesAll_60 rfl ?_
  refine Rt.icmp_gt 67 dX4_goesAll_61 (by decide) (fun c2 => ?_) (fun c2 => ?_)
  · replace h := (if_pos c2).symm.trans h
    refine Rt.iload 5 dX4_goesAll_67 rfl ?_
    refine Rt.istore_n [(3, _), (0, _), (1, _), (2, _), (4, _), (5, _)] dX4_goesAll_69 (by decide) rfl ?_
    refine Rt.aload_n 1 dX4_goesAll_70 rfl ?_
    refine Rt.iload 4 dX4_goesAll_71 rfl ?_
    refine pfX4_185 ly17 dX4_goesAll_73 ?_
    refine Rt.pick [1, 2, 3, 0, 4] rfl ?_
    exact wfX4_goesAll_b76 X k22 hk22 v1 v2 v5 v4 _ z h
  · replace h := (if_neg c2).symm.trans h
    refine Rt.goto 76 dX4_goesAll_64 (by decide) ?_
    refine Rt.pick [0, 1, 2, 3, 4] rfl ?_
    exact wfX4_goesAll_b76 X k22 hk22 v1 v2 v3 v4 _ z h
def fX4_goesAll_b35 (k22 : Int32 → Int32 → Int32 → Int32 → Sto → Option (Unit × Sto)) (v1 : Int32) (v2 : Int32) (v3 : Int32) (v4 : Int32) (σ : Sto) : Option (Unit × Sto) := (fX4_followBy v1 σ).bind fun q1 => (fX4_orElse q1.1 (40 : Int32) q1.2).bind fun q2 => fX4_goesAll_b58 k22 v1 v2 v3 v4 q2.1 (upS q2.2 17 18 ((q2.2 17 18) + q2.1))
set_option maxRecDepth 100000 in
set_option maxHeartbeats 4000000 in
theorem wfX4_goesAll_b35 (X : Scr) (k22 : Int32 → Int32 → Int32 → Int32 → Sto → Option (Unit × Sto)) (hk22 : ∀ (v1 : Int32) (v2 : Int32) (v3 : Int32) (v4 : Int32) (σ : Sto) (z : Unit × Sto), k22 v1 v2 v3 v4 σ = some z → Rt X RX4 cX4_goesAll 6 (rmA 7 149) .return_ 22 [(0, .ref 17), (1, .int v1), (2, .int v2), (3, .int v3), (4, .int v4)] [] σ none z.2) (v1 : Int32) (v2 : Int32) (v3 : Int32) (v4 : Int32) (σ : Sto) (z : Unit × Sto) (h : fX4_goesAll_b35 k22 v1 v2 v3 v4 σ = some z) : Rt X RX4 cX4_goesAll 6 (rmA 7 149) .return_ 35 [(0, .ref 17), (1, .int v1), (2, .int v2), (3, .int v3), (4, .int v4)] [] σ none z.2 := by
  unfold fX4_goesAll_b35 at h
  refine Rt.aload_n 0 dX4_goesAll_35 rfl ?_
  refine Rt.iload_n 1 dX4_goesAll_36 rfl ?_
  obtain ⟨q1, e1, h⟩ := bnd h
  refine Rt.cV (mfX4_followBy v1 _ q1 e1) lkX4_179 ly17 rfl rfl rfl ⟨Nat.le_of_ble_eq_true rfl, Nat.le_of_ble_eq_true rfl⟩ (Nat.le_of_ble_eq_true rfl) rfl dX4_goesAll_37 ?_
  refine Rt.bipush 40 dX4_goesAll_40 (by decide) ?_
  obtain ⟨q2, e2, h⟩ := bnd h
  refine Rt.cS (mfX4_orElse q1.1 (40 : Int32) _ q2 e2) lkX4_188 rfl ⟨Nat.le_of_ble_eq_true rfl, Nat.le_of_ble_eq_true rfl⟩ (Nat.le_of_ble_eq_true rfl) rfl dX4_goesAll_42 ?_
  refine Rt.istore [(5, _), (0, _), (1, _), (2, _), (3, _), (4, _)] dX4_goesAll_45 (by decide) rfl ?_
  refine Rt.aload_n 1 dX4_goesAll_47 rfl ?_
  refine Rt.dup dX4_goesAll_48 rfl ?_
  refine gfX4_182 ly17 dX4_goesAll_49 ?_
  refine Rt.iload 0 dX4_goesAll_52 rfl ?_
  refine Rt.iadd dX4_goesAll_54 ?_
  refine pfX4_182 ly17 dX4_goesAll_55 ?_
  refine Rt.pick [1, 2, 3, 4, 5, 0] rfl ?_
  exact wfX4_goesAll_b58 X k22 hk22 v1 v2 v3 v4 q2.1 _ z h
def fX4_goesAll_l22 : Nat → Int32 → Int32 → Int32 → Int32 → Sto → Option (Unit × Sto)
  | 0, _, _, _, _, _ => none
  | n + 1, v1, v2, v3, v4, σ => if (24 : Int32) ≤ v4 then (some ((), (upS σ 17 4 v2))) else (fX4_goesAll_b35 (fun a0 a1 a2 a3 s => fX4_goesAll_l22 n a0 a1 a2 a3 s) v1 v2 v3 v4 (upS σ 17 4 v4))
set_option maxRecDepth 100000 in
set_option maxHeartbeats 4000000 in
theorem wfX4_goesAll_l22 (X : Scr) : ∀ (n : Nat) (v1 : Int32) (v2 : Int32) (v3 : Int32) (v4 : Int32) (σ : Sto) (z : Unit × Sto), fX4_goesAll_l22 n v1 v2 v3 v4 σ = some z → Rt X RX4 cX4_goesAll 6 (rmA 7 149) .return_ 22 [(0, .ref 17), (1, .int v1), (2, .int v2), (3, .int v3), (4, .int v4)] [] σ none z.2 := by
  intro n
  induction n with
  | zero =>
    intro v1 v2 v3 v4 σ z h
    rw [fX4_goesAll_l22] at h
    cases h
  | succ n ih =>
    intro v1 v2 v3 v4 σ z h
    rw [fX4_goesAll_l22] at h
    refine Rt.iload 4 dX4_goesAll_22 rfl ?_
    refine Rt.bipush 24 dX4_goesAll_24 (by decide) ?_
    refine Rt.icmp_ge 82 dX4_goesAll_26 (by decide) (fun c1 => ?_) (fun c1 => ?_)
    · replace h := (if_pos c1).symm.trans h
      refine Rt.aload_n 0 dX4_goesAll_82 rfl ?_
      refine Rt.iload_n 2 dX4_goesAll_83 rfl ?_
      refine pfX4_101 ly17 dX4_goesAll_84 ?_
      obtain rfl := Option.some.inj h
      exact Rt.ret (v := none) dX4_goesAll_87 rfl rfl rfl
    · replace h := (if_neg c1).symm.trans h
      refine Rt.aload_n 0 dX4_goesAll_29 rfl ?_
      refine Rt.iload 4 dX4_goesAll_30 rfl ?_
      refine pfX4_101 ly17 dX4_goesAll_32 ?_
      exact wfX4_goesAll_b35 X (fun a0 a1 a2 a3 s => fX4_goesAll_l22 n a0 a1 a2 a3 s) ih v1 v2 v3 v4 _ z h
def fX4_goesAll (v1 : Int32) (σ : Sto) : Option (Unit × Sto) := fX4_goesAll_l22 300 v1 (σ 17 4) (-9 : Int32) (0 : Int32) (upS (upS σ 17 18 (0 : Int32)) 17 19 (-9 : Int32))
set_option maxRecDepth 100000 in
set_option maxHeartbeats 4000000 in
theorem wfX4_goesAll (X : Scr) (v1 : Int32) (σ : Sto) (z : Unit × Sto) (h : fX4_goesAll v1 σ = some z) : Rt X RX4 cX4_goesAll 6 (rmA 7 149) .return_ 0 [(0, .ref 17), (1, .int v1)] [] σ none z.2 := by
  unfold fX4_goesAll at h
  refine Rt.aload_n 0 dX4_goesAll_0 rfl ?_
  refine gfX4_101 ly17 dX4_goesAll_1 ?_
  refine Rt.istore_n [(2, _), (0, _), (1, _)] dX4_goesAll_4 (by decide) rfl ?_
  refine Rt.aload_n 1 dX4_goesAll_5 rfl ?_
  refine Rt.iconst 0 dX4_goesAll_6 (by decide) ?_
  refine pfX4_182 ly17 dX4_goesAll_7 ?_
  refine Rt.aload_n 1 dX4_goesAll_10 rfl ?_
  refine Rt.bipush (-9) dX4_goesAll_11 (by decide) ?_
  refine pfX4_185 ly17 dX4_goesAll_13 ?_
  refine Rt.bipush (-9) dX4_goesAll_16 (by decide) ?_
  refine Rt.istore_n [(3, _), (2, _), (0, _), (1, _)] dX4_goesAll_18 (by decide) rfl ?_
  refine Rt.iconst 0 dX4_goesAll_19 (by decide) ?_
  refine Rt.istore [(4, _), (3, _), (2, _), (0, _), (1, _)] dX4_goesAll_20 (by decide) rfl ?_
  refine Rt.pick [3, 4, 2, 1, 0] rfl ?_
  exact wfX4_goesAll_l22 X 300 v1 (σ 17 4) (-9 : Int32) (0 : Int32) _ z h
set_option maxRecDepth 100000 in
set_option maxHeartbeats 4000000 in
theorem mfX4_goesAll (v1 : Int32) (σ : Sto) (z : Unit × Sto) (h : fX4_goesAll v1 σ = some z) : AM yX4_goesAll cX4_goesAll 6 none 7 149 [.ref 17, .int v1] σ none z.2 := AM.void rfl (Nat.le_of_ble_eq_true rfl) (fun X => wfX4_goesAll X v1 σ z h)
-- fX4_divisor
def fX4_divisor_l6 : Nat → Int64 → Int64 → Sto → Option (Int64 × Sto)
  | 0, _, _, _ => none
  | n + 1, v4, v6, σ => if (lg_cmp v6 (0 : Int64)) = 0 then (some (v4, σ)) else (if ¬ v6 = 0 then (fX4_divisor_l6 n v6 (lrm v4 v6) σ) else none)
set_option maxRecDepth 100000 in
set_option maxHeartbeats 4000000 in
theorem wfX4_divisor_l6 (X : Scr) : ∀ (n : Nat) (v4 : Int64) (v6 : Int64) (σ : Sto) (z : Int64 × Sto), fX4_divisor_l6 n v4 v6 σ = some z → Rt X RX4 cX4_divisor 10 (rmA 0 0) .lreturn 6 [(4, .long v4), (6, .long v6)] [] σ (some (.long z.1)) z.2 := by
  intro n
  induction n with
  | zero =>
    intro v4 v6 σ z h
    rw [fX4_divisor_l6] at h
    cases h
  | succ n ih =>
    intro v4 v6 σ z h
    rw [fX4_divisor_l6] at h
    refine Rt.lload 1 dX4_divisor_6 rfl ?_
    refine Rt.lconst 0 dX4_divisor_8 (by decide) ?_
    refine Rt.lcmp dX4_divisor_9 ?_
    refine Rt.if_eq 31 dX4_divisor_10 (by decide) (fun c1 => ?_) (fun c1 => ?_)
    · replace h := (if_pos c1).symm.trans h
      refine Rt.lload 0 dX4_divisor_31 rfl ?_
      obtain rfl := Option.some.inj h
      exact Rt.ret (v := some (.long v4)) dX4_divisor_33 rfl rfl rfl
    · replace h := (if_neg c1).symm.trans h
      refine Rt.lload 0 dX4_divisor_13 rfl ?_
      refine Rt.lload 1 dX4_divisor_15 rfl ?_
      obtain ⟨g2, h⟩ := gd h
      refine Rt.lrem' dX4_divisor_17 g2 ?_
      refine Rt.lstore [(8, _), (4, _), (6, _)] dX4_divisor_18 (by decide) rfl ?_
      refine Rt.lload 2 dX4_divisor_20 rfl ?_
      refine Rt.lstore [(4, _), (8, _), (6, _)] dX4_divisor_22 (by decide) rfl ?_
      refine Rt.lload 1 dX4_divisor_24 rfl ?_
      refine Rt.lstore [(6, _), (4, _), (8, _)] dX4_divisor_26 (by decide) rfl ?_
      refine Rt.goto 6 dX4_divisor_28 (by decide) ?_
      refine Rt.pick [1, 0] rfl ?_
      exact ih v6 (lrm v4 v6) _ z h
def fX4_divisor (v0 : Int64) (v2 : Int64) (σ : Sto) : Option (Int64 × Sto) := fX4_divisor_l6 300 v0 v2 σ
set_option maxRecDepth 100000 in
set_option maxHeartbeats 4000000 in
theorem wfX4_divisor (X : Scr) (v0 : Int64) (v2 : Int64) (σ : Sto) (z : Int64 × Sto) (h : fX4_divisor v0 v2 σ = some z) : Rt X RX4 cX4_divisor 10 (rmA 0 0) .lreturn 0 [(0, .long v0), (2, .long v2)] [] σ (some (.long z.1)) z.2 := by
  unfold fX4_divisor at h
  refine Rt.lload_n 0 dX4_divisor_0 rfl ?_
  refine Rt.lstore [(4, _), (0, _), (2, _)] dX4_divisor_1 (by decide) rfl ?_
  refine Rt.lload_n 2 dX4_divisor_3 rfl ?_
  refine Rt.lstore [(6, _), (4, _), (0, _), (2, _)] dX4_divisor_4 (by decide) rfl ?_
  refine Rt.pick [1, 0] rfl ?_
  exact wfX4_divisor_l6 X 300 v0 v2 _ z h
set_option maxRecDepth 100000 in
set_option maxHeartbeats 4000000 in
theorem mfX4_divisor (v0 : Int64) (v2 : Int64) (σ : Sto) (z : Int64 × Sto) (h : fX4_divisor v0 v2 σ = some z) : AM yX4_divisor cX4_divisor 10 (some .long) 0 0 [.long v0, .long v2] σ (some (.long z.1)) z.2 := AM.long rfl (Nat.le_of_ble_eq_true rfl) (fun X => wfX4_divisor X v0 v2 σ z h)
-- fX4_partOf
def fX4_partOf_b10 (v0 : Int64) (v2 : Int64) (s0 : Int64) (σ : Sto) : Option (Int64 × Sto) := (fX4_divisor v0 v2 σ).bind fun q1 => if ¬ q1.1 = 0 then (some ((s0 / q1.1), q1.2)) else none
set_option maxRecDepth 100000 in
set_option maxHeartbeats 4000000 in
theorem wfX4_partOf_b10 (X : Scr) (v0 : Int64) (v2 : Int64) (s0 : Int64) (σ : Sto) (z : Int64 × Sto) (h : fX4_partOf_b10 v0 v2 s0 σ = some z) : Rt X RX4 cX4_partOf 5 (rmA 1 29) .lreturn 10 [(0, .long v0), (2, .long v2)] [.long s0] σ (some (.long z.1)) z.2 := by
  unfold fX4_partOf_b10 at h
  refine Rt.lload_n 0 dX4_partOf_10 rfl ?_
  refine Rt.lload_n 1 dX4_partOf_11 rfl ?_
  obtain ⟨q1, e1, h⟩ := bnd h
  refine Rt.cS (mfX4_divisor v0 v2 _ q1 e1) lkX4_191 rfl ⟨Nat.le_of_ble_eq_true rfl, Nat.le_of_ble_eq_true rfl⟩ (Nat.le_of_ble_eq_true rfl) rfl dX4_partOf_12 ?_
  obtain ⟨g2, h⟩ := gd h
  refine Rt.ldiv dX4_partOf_15 g2 ?_
  obtain rfl := Option.some.inj h
  exact Rt.ret (v := some (.long (s0 / q1.1))) dX4_partOf_16 rfl rfl rfl
def fX4_partOf (v0 : Int64) (v2 : Int64) (v4 : Int32) (σ : Sto) : Option (Int64 × Sto) := if v4 = 0 then (fX4_partOf_b10 v0 v2 v0 σ) else (fX4_partOf_b10 v0 v2 v2 σ)
set_option maxRecDepth 100000 in
set_option maxHeartbeats 4000000 in
theorem wfX4_partOf (X : Scr) (v0 : Int64) (v2 : Int64) (v4 : Int32) (σ : Sto) (z : Int64 × Sto) (h : fX4_partOf v0 v2 v4 σ = some z) : Rt X RX4 cX4_partOf 5 (rmA 1 29) .lreturn 0 [(0, .long v0), (2, .long v2), (4, .int v4)] [] σ (some (.long z.1)) z.2 := by
  unfold fX4_partOf at h
  refine Rt.iload 2 dX4_partOf_0 rfl ?_
  refine Rt.if_ne 9 dX4_partOf_2 (by decide) (fun c1 => ?_) (fun c1 => ?_)
  · replace h := (if_neg c1).symm.trans h
    refine Rt.lload_n 1 dX4_partOf_9 rfl ?_
    refine Rt.pick [0, 1] rfl ?_
    exact wfX4_partOf_b10 X v0 v2 v2 _ z h
  · replace h := (if_pos c1).symm.trans h
    refine Rt.lload_n 0 dX4_partOf_5 rfl ?_
    refine Rt.goto 10 dX4_partOf_6 (by decide) ?_
    refine Rt.pick [0, 1] rfl ?_
    exact wfX4_partOf_b10 X v0 v2 v0 _ z h
set_option maxRecDepth 100000 in
set_option maxHeartbeats 4000000 in
theorem mfX4_partOf (v0 : Int64) (v2 : Int64) (v4 : Int32) (σ : Sto) (z : Int64 × Sto) (h : fX4_partOf v0 v2 v4 σ = some z) : AM yX4_partOf cX4_partOf 5 (some .long) 1 29 [.long v0, .long v2, .int v4] σ (some (.long z.1)) z.2 := AM.long rfl (Nat.le_of_ble_eq_true rfl) (fun X => wfX4_partOf X v0 v2 v4 σ z h)
-- fX4_mean
def fX4_mean_b18 (σ : Sto) : Option (Int64 × Sto) := (fX4_lowest (-2 : Int32) σ).bind fun q2 => some (q2.1, q2.2)
set_option maxRecDepth 100000 in
set_option maxHeartbeats 4000000 in
theorem wfX4_mean_b18 (X : Scr) (σ : Sto) (z : Int64 × Sto) (h : fX4_mean_b18 σ = some z) : Rt X RX4 cX4_mean 3 (rmA 8 174) .lreturn 18 [(0, .ref 17)] [] σ (some (.long z.1)) z.2 := by
  unfold fX4_mean_b18 at h
  refine Rt.aload_n 0 dX4_mean_18 rfl ?_
  refine Rt.bipush (-2) dX4_mean_19 (by decide) ?_
  obtain ⟨q2, e2, h⟩ := bnd h
  refine Rt.cV (mfX4_lowest (-2 : Int32) _ q2 e2) lkX4_195 ly17 rfl rfl rfl ⟨Nat.le_of_ble_eq_true rfl, Nat.le_of_ble_eq_true rfl⟩ (Nat.le_of_ble_eq_true rfl) rfl dX4_mean_21 ?_
  obtain rfl := Option.some.inj h
  exact Rt.ret (v := some (.long q2.1)) dX4_mean_24 rfl rfl rfl
def fX4_mean (v1 : Int32) (v2 : Int32) (σ : Sto) : Option (Int64 × Sto) := (fX4_isIn v1 (0 : Int32) (5 : Int32) σ).bind fun q1 => if q1.1 = 0 then (fX4_mean_b18 q1.2) else ((fX4_isIn v2 (0 : Int32) (1 : Int32) q1.2).bind fun q3 => if q3.1 = 0 then (fX4_mean_b18 q3.2) else ((fX4_goesAll v1 q3.2).bind fun q4 => (fX4_partOf (((q4.2 17 18)).toInt64) (24 : Int64) v2 q4.2).bind fun q5 => some (q5.1, q5.2)))
set_option maxRecDepth 100000 in
set_option maxHeartbeats 4000000 in
theorem wfX4_mean (X : Scr) (v1 : Int32) (v2 : Int32) (σ : Sto) (z : Int64 × Sto) (h : fX4_mean v1 v2 σ = some z) : Rt X RX4 cX4_mean 3 (rmA 8 174) .lreturn 0 [(0, .ref 17), (1, .int v1), (2, .int v2)] [] σ (some (.long z.1)) z.2 := by
  unfold fX4_mean at h
  refine Rt.iload_n 1 dX4_mean_0 rfl ?_
  refine Rt.iconst 0 dX4_mean_1 (by decide) ?_
  refine Rt.iconst 5 dX4_mean_2 (by decide) ?_
  obtain ⟨q1, e1, h⟩ := bnd h
  refine Rt.cS (mfX4_isIn v1 (0 : Int32) (5 : Int32) _ q1 e1) lkX4_71 rfl ⟨Nat.le_of_ble_eq_true rfl, Nat.le_of_ble_eq_true rfl⟩ (Nat.le_of_ble_eq_true rfl) rfl dX4_mean_3 ?_
  refine Rt.if_eq 18 dX4_mean_6 (by decide) (fun c1 => ?_) (fun c1 => ?_)
  · replace h := (if_pos c1).symm.trans h
    refine Rt.pick [0] rfl ?_
    exact wfX4_mean_b18 X _ z h
  · replace h := (if_neg c1).symm.trans h
    refine Rt.iload_n 2 dX4_mean_9 rfl ?_
    refine Rt.iconst 0 dX4_mean_10 (by decide) ?_
    refine Rt.iconst 1 dX4_mean_11 (by decide) ?_
    obtain ⟨q3, e3, h⟩ := bnd h
    refine Rt.cS (mfX4_isIn v2 (0 : Int32) (1 : Int32) _ q3 e3) lkX4_71 rfl ⟨Nat.le_of_ble_eq_true rfl, Nat.le_of_ble_eq_true rfl⟩ (Nat.le_of_ble_eq_true rfl) rfl dX4_mean_12 ?_
    refine Rt.if_ne 25 dX4_mean_15 (by decide) (fun c2 => ?_) (fun c2 => ?_)
    · replace h := (if_neg c2).symm.trans h
      refine Rt.aload_n 0 dX4_mean_25 rfl ?_
      refine Rt.iload_n 1 dX4_mean_26 rfl ?_
      obtain ⟨q4, e4, h⟩ := bnd h
      refine Rt.cV0 (mfX4_goesAll v1 _ q4 e4) lkX4_199 ly17 rfl rfl rfl ⟨Nat.le_of_ble_eq_true rfl, Nat.le_of_ble_eq_true rfl⟩ (Nat.le_of_ble_eq_true rfl) rfl dX4_mean_27 ?_
      refine Rt.aload_n 0 dX4_mean_30 rfl ?_
      refine gfX4_182 ly17 dX4_mean_31 ?_
      refine Rt.i2l dX4_mean_34 ?_
      refine Rt.ldc2 24 clX4_202 dX4_mean_35 ?_
      refine Rt.iload_n 2 dX4_mean_38 rfl ?_
      obtain ⟨q5, e5, h⟩ := bnd h
      refine Rt.cS (mfX4_partOf (((q4.2 17 18)).toInt64) (24 : Int64) v2 _ q5 e5) lkX4_204 rfl ⟨Nat.le_of_ble_eq_true rfl, Nat.le_of_ble_eq_true rfl⟩ (Nat.le_of_ble_eq_true rfl) rfl dX4_mean_39 ?_
      obtain rfl := Option.some.inj h
      exact Rt.ret (v := some (.long q5.1)) dX4_mean_42 rfl rfl rfl
    · replace h := (if_pos c2).symm.trans h
      refine Rt.pick [0] rfl ?_
      exact wfX4_mean_b18 X _ z h
set_option maxRecDepth 100000 in
set_option maxHeartbeats 4000000 in
theorem mfX4_mean (v1 : Int32) (v2 : Int32) (σ : Sto) (z : Int64 × Sto) (h : fX4_mean v1 v2 σ = some z) : AM yX4_mean cX4_mean 3 (some .long) 8 174 [.ref 17, .int v1, .int v2] σ (some (.long z.1)) z.2 := AM.long rfl (Nat.le_of_ble_eq_true rfl) (fun X => wfX4_mean X v1 v2 σ z h)
-- fX4_hardest
def fX4_hardest (v1 : Int32) (σ : Sto) : Option (Int32 × Sto) := (fX4_isIn v1 (0 : Int32) (5 : Int32) σ).bind fun q1 => if q1.1 = 0 then ((fX4_no (-2 : Int32) q1.2).bind fun q3 => some (q3.1, q3.2)) else ((fX4_goesAll v1 q1.2).bind fun q2 => some ((q2.2 17 19), q2.2))
set_option maxRecDepth 100000 in
set_option maxHeartbeats 4000000 in
theorem wfX4_hardest (X : Scr) (v1 : Int32) (σ : Sto) (z : Int32 × Sto) (h : fX4_hardest v1 σ = some z) : Rt X RX4 cX4_hardest 2 (rmA 8 174) .ireturn 0 [(0, .ref 17), (1, .int v1)] [] σ (some (.int z.1)) z.2 := by
  unfold fX4_hardest at h
  refine Rt.iload_n 1 dX4_hardest_0 rfl ?_
  refine Rt.iconst 0 dX4_hardest_1 (by decide) ?_
  refine Rt.iconst 5 dX4_hardest_2 (by decide) ?_
  obtain ⟨q1, e1, h⟩ := bnd h
  refine Rt.cS (mfX4_isIn v1 (0 : Int32) (5 : Int32) _ q1 e1) lkX4_71 rfl ⟨Nat.le_of_ble_eq_true rfl, Nat.le_of_ble_eq_true rfl⟩ (Nat.le_of_ble_eq_true rfl) rfl dX4_hardest_3 ?_
  refine Rt.if_ne 16 dX4_hardest_6 (by decide) (fun c1 => ?_) (fun c1 => ?_)
  · replace h := (if_neg c1).symm.trans h
    refine Rt.aload_n 0 dX4_hardest_16 rfl ?_
    refine Rt.iload_n 1 dX4_hardest_17 rfl ?_
    obtain ⟨q2, e2, h⟩ := bnd h
    refine Rt.cV0 (mfX4_goesAll v1 _ q2 e2) lkX4_199 ly17 rfl rfl rfl ⟨Nat.le_of_ble_eq_true rfl, Nat.le_of_ble_eq_true rfl⟩ (Nat.le_of_ble_eq_true rfl) rfl dX4_hardest_18 ?_
    refine Rt.aload_n 0 dX4_hardest_21 rfl ?_
    refine gfX4_185 ly17 dX4_hardest_22 ?_
    obtain rfl := Option.some.inj h
    exact Rt.ret (v := some (.int (q2.2 17 19))) dX4_hardest_25 rfl rfl rfl
  · replace h := (if_pos c1).symm.trans h
    refine Rt.aload_n 0 dX4_hardest_9 rfl ?_
    refine Rt.bipush (-2) dX4_hardest_10 (by decide) ?_
    obtain ⟨q3, e3, h⟩ := bnd h
    refine Rt.cV (mfX4_no (-2 : Int32) _ q3 e3) lkX4_60 ly17 rfl rfl rfl ⟨Nat.le_of_ble_eq_true rfl, Nat.le_of_ble_eq_true rfl⟩ (Nat.le_of_ble_eq_true rfl) rfl dX4_hardest_12 ?_
    obtain rfl := Option.some.inj h
    exact Rt.ret (v := some (.int q3.1)) dX4_hardest_15 rfl rfl rfl
set_option maxRecDepth 100000 in
set_option maxHeartbeats 4000000 in
theorem mfX4_hardest (v1 : Int32) (σ : Sto) (z : Int32 × Sto) (h : fX4_hardest v1 σ = some z) : AM yX4_hardest cX4_hardest 2 (some .int) 8 174 [.ref 17, .int v1] σ (some (.int z.1)) z.2 := AM.int rfl (Nat.le_of_ble_eq_true rfl) (fun X => wfX4_hardest X v1 σ z h)
-- fX4_speak
def fX4_speak_b18 (σ : Sto) : Option (Int32 × Sto) := (fX4_no (-2 : Int32) σ).bind fun q2 => some (q2.1, q2.2)
set_option maxRecDepth 100000 in
set_option maxHeartbeats 4000000 in
theorem wfX4_speak_b18 (X : Scr) (σ : Sto) (z : Int32 × Sto) (h : fX4_speak_b18 σ = some z) : Rt X RX4 cX4_speak 9 (rmA 7 149) .ireturn 18 [(0, .ref 17)] [] σ (some (.int z.1)) z.2 := by
  unfold fX4_speak_b18 at h
  refine Rt.aload_n 0 dX4_speak_18 rfl ?_
  refine Rt.bipush (-2) dX4_speak_19 (by decide) ?_
  obtain ⟨q2, e2, h⟩ := bnd h
  refine Rt.cV (mfX4_no (-2 : Int32) _ q2 e2) lkX4_60 ly17 rfl rfl rfl ⟨Nat.le_of_ble_eq_true rfl, Nat.le_of_ble_eq_true rfl⟩ (Nat.le_of_ble_eq_true rfl) rfl dX4_speak_21 ?_
  obtain rfl := Option.some.inj h
  exact Rt.ret (v := some (.int q2.1)) dX4_speak_24 rfl rfl rfl
def fX4_speak_b147 (v2 : Int32) (v5 : Int32) (v6 : Int32) (σ : Sto) : Option (Int32 × Sto) := if v2 = 0 then (some (v5, σ)) else (some (v6, σ))
set_option maxRecDepth 100000 in
set_option maxHeartbeats 4000000 in
theorem wfX4_speak_b147 (X : Scr) (v2 : Int32) (v5 : Int32) (v6 : Int32) (σ : Sto) (z : Int32 × Sto) (h : fX4_speak_b147 v2 v5 v6 σ = some z) : Rt X RX4 cX4_speak 9 (rmA 7 149) .ireturn 147 [(2, .int v2), (5, .int v5), (6, .int v6)] [] σ (some (.int z.1)) z.2 := by
  unfold fX4_speak_b147 at h
  refine Rt.iload_n 0 dX4_speak_147 rfl ?_
  refine Rt.if_ne 156 dX4_speak_148 (by decide) (fun c8 => ?_) (fun c8 => ?_)
  · replace h := (if_neg c8).symm.trans h
    refine Rt.iload 2 dX4_speak_156 rfl ?_
    obtain rfl := Option.some.inj h
    exact Rt.ret (v := some (.int v6)) dX4_speak_158 rfl rfl rfl
  · replace h := (if_pos c8).symm.trans h
    refine Rt.iload 1 dX4_speak_151 rfl ?_
    refine Rt.goto 158 dX4_speak_153 (by decide) ?_
    obtain rfl := Option.some.inj h
    exact Rt.ret (v := some (.int v5)) dX4_speak_158 rfl rfl rfl
def fX4_speak_b126 (k51 : Int32 → Int32 → Int32 → Int32 → Int32 → Int32 → Int32 → Sto → Option (Int32 × Sto)) (v1 : Int32) (v2 : Int32) (v3 : Int32) (v4 : Int32) (v5 : Int32) (v6 : Int32) (v7 : Int32) (σ : Sto) : Option (Int32 × Sto) := k51 v1 v2 v3 v4 v5 v6 (v7 + (1 : Int32)) σ
set_option maxRecDepth 100000 in
set_option maxHeartbeats 4000000 in
theorem wfX4_speak_b126 (X : Scr) (k51 : Int32 → Int32 → Int32 → Int32 → Int32 → Int32 → Int32 → Sto → Option (Int32 × Sto)) (hk51 : ∀ (v1 : Int32) (v2 : Int32) (v3 : Int32) (v4 : Int32) (v5 : Int32) (v6 : Int32) (v7 : Int32) (σ : Sto) (z : Int32 × Sto), k51 v1 v2 v3 v4 v5 v6 v7 σ = some z → Rt X RX4 cX4_speak 9 (rmA 7 149) .ireturn 51 [(0, .ref 17), (1, .int v1), (2, .int v2), (3, .int v3), (4, .int v4), (5, .int v5), (6, .int v6), (7, .int v7)] [] σ (some (.int z.1)) z.2) (v1 : Int32) (v2 : Int32) (v3 : Int32) (v4 : Int32) (v5 : Int32) (v6 : Int32) (v7 : Int32) (σ : Sto) (z : Int32 × Sto) (h : fX4_speak_b126 k51 v1 v2 v3 v4 v5 v6 v7 σ = some z) : Rt X RX4 cX4_speak 9 (rmA 7 149) .ireturn 126 [(0, .ref 17), (1, .int v1), (2, .int v2), (3, .int v3), (4, .int v4), (5, .int v5), (6, .int v6), (7, .int v7)] [] σ (some (.int z.1)) z.2 := by
  unfold fX4_speak_b126 at h
  refine Rt.iinc [(7, _), (0, _), (1, _), (2, _), (3, _), (4, _), (5, _), (6, _)] (v7 + (1 : Int32)) 7 dX4_speak_126 rfl rfl (by decide) rfl ?_
  refine Rt.goto 51 dX4_speak_129 (by decide) ?_
  refine Rt.pick [1, 2, 3, 4, 5, 6, 7, 0] rfl ?_
  exact hk51 v1 v2 v3 v4 v5 v6 (v7 + (1 : Int32)) _ z h
def fX4_speak_b96 (k51 : Int32 → Int32 → Int32 → Int32 → Int32 → Int32 → Int32 → Sto → Option (Int32 × Sto)) (v1 : Int32) (v2 : Int32) (v3 : Int32) (v4 : Int32) (v5 : Int32) (v6 : Int32) (v7 : Int32) (σ : Sto) : Option (Int32 × Sto) := (fX4_followBy v1 σ).bind fun q5 => (fX4_orElse q5.1 (41 : Int32) q5.2).bind fun q6 => if q6.1 < v6 then (fX4_speak_b126 k51 v1 v2 v3 v4 v7 q6.1 v7 q6.2) else (fX4_speak_b126 k51 v1 v2 v3 v4 v5 v6 v7 q6.2)
set_option maxRecDepth 100000 in
set_option maxHeartbeats 4000000 in
theorem wfX4_speak_b96 (X : Scr) (k51 : Int32 → Int32 → Int32 → Int32 → Int32 → Int32 → Int32 → Sto → Option (Int32 × Sto)) (hk51 : ∀ (v1 : Int32) (v2 : Int32) (v3 : Int32) (v4 : Int32) (v5 : Int32) (v6 : Int32) (v7 : Int32) (σ : Sto) (z : Int32 × Sto), k51 v1 v2 v3 v4 v5 v6 v7 σ = some z → Rt X RX4 cX4_speak 9 (rmA 7 149) .ireturn 51 [(0, .ref 17), (1, .int v1), (2, .int v2), (3, .int v3), (4, .int v4), (5, .int v5), (6, .int v6), (7, .int v7)] [] σ (some (.int z.1)) z.2) (v1 : Int32) (v2 : Int32) (v3 : Int32) (v4 : Int32) (v5 : Int32) (v6 : Int32) (v7 : Int32) (σ : Sto) (z : Int32 × Sto) (h : fX4_speak_b96 k51 v1 v2 v3 v4 v5 v6 v7 σ = some z) : Rt X RX4 cX4_speak 9 (rmA 7 149) .ireturn 96 [(0, .ref 17), (1, .int v1), (2, .int v2), (3, .int v3), (4, .int v4), (5, .int v5), (6, .int v6), (7, .int v7)] [] σ (some (.int z.1)) z.2 := by
  unfold fX4_speak_b96 at h
  refine Rt.aload_n 0 dX4_speak_96 rfl ?_
  refine Rt.iload_n 1 dX4_speak_97 rfl ?_
  obtain ⟨q5, e5, h⟩ := bnd h
  refine Rt.cV (mfX4_followBy v1 _ q5 e5) lkX4_179 ly17 rfl rfl rfl ⟨Nat.le_of_ble_eq_true rfl, Nat.le_of_ble_eq_true rfl⟩ (Nat.le_of_ble_eq_true rfl) rfl dX4_speak_98 ?_
  refine Rt.bipush 41 dX4_speak_101 (by decide) ?_
  obtain ⟨q6, e6, h⟩ := bnd h
  refine Rt.cS (mfX4_orElse q5.1 (41 : Int32) _ q6 e6) lkX4_188 rfl ⟨Nat.le_of_ble_eq_true rfl, Nat.le_of_ble_eq_true rfl⟩ (Nat.le_of_ble_eq_true rfl) rfl dX4_speak_103 ?_
  refine Rt.istore [(8, _), (0, _), (1, _), (2, _), (3, _), (4, _), (5, _), (6, _), (7, _)] dX4_speak_106 (by decide) rfl ?_
  refine Rt.iload 0 dX4_speak_108 rfl ?_
  refine Rt.iload 7 dX4_speak_110 rfl ?_
  refine Rt.icmp_lt 118 dX4_speak_112 (by decide) (fun c12 => ?_) (fun c12 => ?_)
  · replace h := (if_pos c12).symm.trans h
    refine Rt.iload 8 dX4_speak_118 rfl ?_
    refine Rt.istore [(5, _), (8, _), (0, _), (1, _), (2, _), (3, _), (4, _), (6, _), (7, _)] dX4_speak_120 (by decide) rfl ?_
    refine Rt.iload 1 dX4_speak_122 rfl ?_
    refine Rt.istore [(6, _), (5, _), (8, _), (0, _), (1, _), (2, _), (3, _), (4, _), (7, _)] dX4_speak_124 (by decide) rfl ?_
    refine Rt.pick [3, 4, 5, 6, 7, 1, 0, 8] rfl ?_
    exact wfX4_speak_b126 X k51 hk51 v1 v2 v3 v4 v7 q6.1 v7 _ z h
  · replace h := (if_neg c12).symm.trans h
    refine Rt.goto 126 dX4_speak_115 (by decide) ?_
    refine Rt.pick [1, 2, 3, 4, 5, 6, 7, 8] rfl ?_
    exact wfX4_speak_b126 X k51 hk51 v1 v2 v3 v4 v5 v6 v7 _ z h
def fX4_speak_l51 : Nat → Int32 → Int32 → Int32 → Int32 → Int32 → Int32 → Int32 → Sto → Option (Int32 × Sto)
  | 0, _, _, _, _, _, _, _, _ => none
  | n + 1, v1, v2, v3, v4, v5, v6, v7, σ => if (36 : Int32) ≤ v7 then (if inb (1 : Int32) 4 = true then (if inb (2 : Int32) 4 = true then (fX4_speak_b147 v2 v5 v6 (upS (upS σ 20 ((1 : Int32)).toNatClampNeg v3) 20 ((2 : Int32)).toNatClampNeg v4)) else none) else none) else ((fX4_isIn (irm v7 (10 : Int32)) (2 : Int32) (5 : Int32) σ).bind fun q4 => if q4.1 = 0 then (fX4_speak_b126 (fun a0 a1 a2 a3 a4 a5 a6 s => fX4_speak_l51 n a0 a1 a2 a3 a4 a5 a6 s) v1 v2 v3 v4 v5 v6 v7 q4.2) else (if inb (1 : Int32) 4 = true then (if inb (2 : Int32) 4 = true then (fX4_speak_b96 (fun a0 a1 a2 a3 a4 a5 a6 s => fX4_speak_l51 n a0 a1 a2 a3 a4 a5 a6 s) v1 v2 v3 v4 v5 v6 v7 (upS (upS q4.2 20 ((1 : Int32)).toNatClampNeg (v7 / (10 : Int32))) 20 ((2 : Int32)).toNatClampNeg (irm v7 (10 : Int32)))) else none) else none))
set_option maxRecDepth 100000 in
set_option maxHeartbeats 4000000 in
theorem wfX4_speak_l51 (X : Scr) : ∀ (n : Nat) (v1 : Int32) (v2 : Int32) (v3 : Int32) (v4 : Int32) (v5 : Int32) (v6 : Int32) (v7 : Int32) (σ : Sto) (z : Int32 × Sto), fX4_speak_l51 n v1 v2 v3 v4 v5 v6 v7 σ = some z → Rt X RX4 cX4_speak 9 (rmA 7 149) .ireturn 51 [(0, .ref 17), (1, .int v1), (2, .int v2), (3, .int v3), (4, .int v4), (5, .int v5), (6, .int v6), (7, .int v7)] [] σ (some (.int z.1)) z.2 := by
  intro n
  induction n with
  | zero =>
    intro v1 v2 v3 v4 v5 v6 v7 σ z h
    rw [fX4_speak_l51] at h
    cases h
  | succ n ih =>
    intro v1 v2 v3 v4 v5 v6 v7 σ z h
    rw [fX4_speak_l51] at h
    refine Rt.iload 7 dX4_speak_51 rfl ?_
    refine Rt.bipush 36 dX4_speak_53 (by decide) ?_
    refine Rt.icmp_ge 132 dX4_speak_55 (by decide) (fun c5 => ?_) (fun c5 => ?_)
    · replace h := (if_pos c5).symm.trans h
      refine Rt.aload_n 0 dX4_speak_132 rfl ?_
      refine gfX4_16 ly17 dX4_speak_133 ?_
      refine Rt.iconst 1 dX4_speak_136 (by decide) ?_
      refine Rt.iload_n 3 dX4_speak_137 rfl ?_
      obtain ⟨g6, h⟩ := gd h
      refine Rt.iast ly20 g6 dX4_speak_138 ?_
      refine Rt.aload_n 0 dX4_speak_139 rfl ?_
      refine gfX4_16 ly17 dX4_speak_140 ?_
      refine Rt.iconst 2 dX4_speak_143 (by decide) ?_
      refine Rt.iload 4 dX4_speak_144 rfl ?_
      obtain ⟨g7, h⟩ := gd h
      refine Rt.iast ly20 g7 dX4_speak_146 ?_
      refine Rt.pick [2, 5, 6] rfl ?_
      exact wfX4_speak_b147 X v2 v5 v6 _ z h
    · replace h := (if_neg c5).symm.trans h
      refine Rt.iload 7 dX4_speak_58 rfl ?_
      refine Rt.bipush 10 dX4_speak_60 (by decide) ?_
      refine Rt.rem dX4_speak_62 (by decide) ?_
      refine Rt.iconst 2 dX4_speak_63 (by decide) ?_
      refine Rt.iconst 5 dX4_speak_64 (by decide) ?_
      obtain ⟨q4, e4, h⟩ := bnd h
      refine Rt.cS (mfX4_isIn (irm v7 (10 : Int32)) (2 : Int32) (5 : Int32) _ q4 e4) lkX4_71 rfl ⟨Nat.le_of_ble_eq_true rfl, Nat.le_of_ble_eq_true rfl⟩ (Nat.le_of_ble_eq_true rfl) rfl dX4_speak_65 ?_
      refine Rt.if_ne 74 dX4_speak_68 (by decide) (fun c9 => ?_) (fun c9 => ?_)
      · replace h := (if_neg c9).symm.trans h
        refine Rt.aload_n 0 dX4_speak_74 rfl ?_
        refine gfX4_16 ly17 dX4_speak_75 ?_
        refine Rt.iconst 1 dX4_speak_78 (by decide) ?_
        refine Rt.iload 7 dX4_speak_79 rfl ?_
        refine Rt.bipush 10 dX4_speak_81 (by decide) ?_
        refine Rt.idiv dX4_speak_83 (by decide) ?_
        obtain ⟨g10, h⟩ := gd h
        refine Rt.iast ly20 g10 dX4_speak_84 ?_
        refine Rt.aload_n 0 dX4_speak_85 rfl ?_
        refine gfX4_16 ly17 dX4_speak_86 ?_
        refine Rt.iconst 2 dX4_speak_89 (by decide) ?_
        refine Rt.iload 7 dX4_speak_90 rfl ?_
        refine Rt.bipush 10 dX4_speak_92 (by decide) ?_
        refine Rt.rem dX4_speak_94 (by decide) ?_
        obtain ⟨g11, h⟩ := gd h
        refine Rt.iast ly20 g11 dX4_speak_95 ?_
        exact wfX4_speak_b96 X (fun a0 a1 a2 a3 a4 a5 a6 s => fX4_speak_l51 n a0 a1 a2 a3 a4 a5 a6 s) ih v1 v2 v3 v4 v5 v6 v7 _ z h
      · replace h := (if_pos c9).symm.trans h
        refine Rt.goto 126 dX4_speak_71 (by decide) ?_
        exact wfX4_speak_b126 X (fun a0 a1 a2 a3 a4 a5 a6 s => fX4_speak_l51 n a0 a1 a2 a3 a4 a5 a6 s) ih v1 v2 v3 v4 v5 v6 v7 _ z h
def fX4_speak (v1 : Int32) (v2 : Int32) (σ : Sto) : Option (Int32 × Sto) := (fX4_isIn v1 (0 : Int32) (5 : Int32) σ).bind fun q1 => if q1.1 = 0 then (fX4_speak_b18 q1.2) else ((fX4_isIn v2 (0 : Int32) (1 : Int32) q1.2).bind fun q3 => if q3.1 = 0 then (fX4_speak_b18 q3.2) else (if inb (1 : Int32) 4 = true then (if inb (2 : Int32) 4 = true then (fX4_speak_l51 300 v1 v2 (q3.2 20 ((1 : Int32)).toNatClampNeg) (q3.2 20 ((2 : Int32)).toNatClampNeg) (0 : Int32) (99 : Int32) (12 : Int32) q3.2) else none) else none))
set_option maxRecDepth 100000 in
set_option maxHeartbeats 4000000 in
theorem wfX4_speak (X : Scr) (v1 : Int32) (v2 : Int32) (σ : Sto) (z : Int32 × Sto) (h : fX4_speak v1 v2 σ = some z) : Rt X RX4 cX4_speak 9 (rmA 7 149) .ireturn 0 [(0, .ref 17), (1, .int v1), (2, .int v2)] [] σ (some (.int z.1)) z.2 := by
  unfold fX4_speak at h
  refine Rt.iload_n 1 dX4_speak_0 rfl ?_
  refine Rt.iconst 0 dX4_speak_1 (by decide) ?_
  refine Rt.iconst 5 dX4_speak_2 (by decide) ?_
  obtain ⟨q1, e1, h⟩ := bnd h
  refine Rt.cS (mfX4_isIn v1 (0 : Int32) (5 : Int32) _ q1 e1) lkX4_71 rfl ⟨Nat.le_of_ble_eq_true rfl, Nat.le_of_ble_eq_true rfl⟩ (Nat.le_of_ble_eq_true rfl) rfl dX4_speak_3 ?_
  refine Rt.if_eq 18 dX4_speak_6 (by decide) (fun c1 => ?_) (fun c1 => ?_)
  · replace h := (if_pos c1).symm.trans h
    refine Rt.pick [0] rfl ?_
    exact wfX4_speak_b18 X _ z h
  · replace h := (if_neg c1).symm.trans h
    refine Rt.iload_n 2 dX4_speak_9 rfl ?_
    refine Rt.iconst 0 dX4_speak_10 (by decide) ?_
    refine Rt.iconst 1 dX4_speak_11 (by decide) ?_
    obtain ⟨q3, e3, h⟩ := bnd h
    refine Rt.cS (mfX4_isIn v2 (0 : Int32) (1 : Int32) _ q3 e3) lkX4_71 rfl ⟨Nat.le_of_ble_eq_true rfl, Nat.le_of_ble_eq_true rfl⟩ (Nat.le_of_ble_eq_true rfl) rfl dX4_speak_12 ?_
    refine Rt.if_ne 25 dX4_speak_15 (by decide) (fun c2 => ?_) (fun c2 => ?_)
    · replace h := (if_neg c2).symm.trans h
      refine Rt.aload_n 0 dX4_speak_25 rfl ?_
      refine gfX4_16 ly17 dX4_speak_26 ?_
      refine Rt.iconst 1 dX4_speak_29 (by decide) ?_
      obtain ⟨g3, h⟩ := gd h
      refine Rt.iald ly20 g3 dX4_speak_30 ?_
      refine Rt.istore_n [(3, _), (0, _), (1, _), (2, _)] dX4_speak_31 (by decide) rfl ?_
      refine Rt.aload_n 1 dX4_speak_32 rfl ?_
      refine gfX4_16 ly17 dX4_speak_33 ?_
      refine Rt.iconst 2 dX4_speak_36 (by decide) ?_
      obtain ⟨g4, h⟩ := gd h
      refine Rt.iald ly20 g4 dX4_speak_37 ?_
      refine Rt.istore [(4, _), (3, _), (0, _), (1, _), (2, _)] dX4_speak_38 (by decide) rfl ?_
      refine Rt.iconst 0 dX4_speak_40 (by decide) ?_
      refine Rt.istore [(5, _), (4, _), (3, _), (0, _), (1, _), (2, _)] dX4_speak_41 (by decide) rfl ?_
      refine Rt.bipush 99 dX4_speak_43 (by decide) ?_
      refine Rt.istore [(6, _), (5, _), (4, _), (3, _), (0, _), (1, _), (2, _)] dX4_speak_45 (by decide) rfl ?_
      refine Rt.bipush 12 dX4_speak_47 (by decide) ?_
      refine Rt.istore [(7, _), (6, _), (5, _), (4, _), (3, _), (0, _), (1, _), (2, _)] dX4_speak_49 (by decide) rfl ?_
      refine Rt.pick [5, 6, 7, 4, 3, 2, 1, 0] rfl ?_
      exact wfX4_speak_l51 X 300 v1 v2 (q3.2 20 ((1 : Int32)).toNatClampNeg) (q3.2 20 ((2 : Int32)).toNatClampNeg) (0 : Int32) (99 : Int32) (12 : Int32) _ z h
    · replace h := (if_pos c2).symm.trans h
      refine Rt.pick [0] rfl ?_
      exact wfX4_speak_b18 X _ z h
set_option maxRecDepth 100000 in
set_option maxHeartbeats 4000000 in
theorem mfX4_speak (v1 : Int32) (v2 : Int32) (σ : Sto) (z : Int32 × Sto) (h : fX4_speak v1 v2 σ = some z) : AM yX4_speak cX4_speak 9 (some .int) 7 149 [.ref 17, .int v1, .int v2] σ (some (.int z.1)) z.2 := AM.int rfl (Nat.le_of_ble_eq_true rfl) (fun X => wfX4_speak X v1 v2 σ z h)
-- fX4_saying
def fX4_saying_b41 (v1 : Int32) (v2 : Int32) (s0 : Int32) (σ : Sto) : Option (Int32 × Sto) := if s0 = 0 then (if inb (σ 17 23) 8 = true then (if inb ((upS σ 26 ((σ 17 23)).toNatClampNeg v1) 17 23) 8 = true then (some (((upS (upS (upS σ 26 ((σ 17 23)).toNatClampNeg v1) 27 (((upS σ 26 ((σ 17 23)).toNatClampNeg v1) 17 23)).toNatClampNeg v2) 17 23 (((upS (upS σ 26 ((σ 17 23)).toNatClampNeg v1) 27 (((upS σ 26 ((σ 17 23)).toNatClampNeg v1) 17 23)).toNatClampNeg v2) 17 23) + (1 : Int32))) 17 23), (upS (upS (upS σ 26 ((σ 17 23)).toNatClampNeg v1) 27 (((upS σ 26 ((σ 17 23)).toNatClampNeg v1) 17 23)).toNatClampNeg v2) 17 23 (((upS (upS σ 26 ((σ 17 23)).toNatClampNeg v1) 27 (((upS σ 26 ((σ 17 23)).toNatClampNeg v1) 17 23)).toNatClampNeg v2) 17 23) + (1 : Int32))))) else none) else none) else ((fX4_no s0 σ).bind fun q3 => some (q3.1, q3.2))
set_option maxRecDepth 100000 in
set_option maxHeartbeats 4000000 in
theorem wfX4_saying_b41 (X : Scr) (v1 : Int32) (v2 : Int32) (s0 : Int32) (σ : Sto) (z : Int32 × Sto) (h : fX4_saying_b41 v1 v2 s0 σ = some z) : Rt X RX4 cX4_saying 4 (rmA 1 22) .ireturn 41 [(0, .ref 17), (1, .int v1), (2, .int v2)] [.int s0] σ (some (.int z.1)) z.2 := by
  unfold fX4_saying_b41 at h
  refine Rt.istore_n [(3, _), (0, _), (1, _), (2, _)] dX4_saying_41 (by decide) rfl ?_
  refine Rt.iload_n 0 dX4_saying_42 rfl ?_
  refine Rt.if_eq 52 dX4_saying_43 (by decide) (fun c4 => ?_) (fun c4 => ?_)
  · replace h := (if_pos c4).symm.trans h
    refine Rt.aload_n 1 dX4_saying_52 rfl ?_
    refine gfX4_34 ly17 dX4_saying_53 ?_
    refine Rt.aload_n 1 dX4_saying_56 rfl ?_
    refine gfX4_208 ly17 dX4_saying_57 ?_
    refine Rt.iload_n 2 dX4_saying_60 rfl ?_
    obtain ⟨g5, h⟩ := gd h
    refine Rt.iast ly26 g5 dX4_saying_61 ?_
    refine Rt.aload_n 1 dX4_saying_62 rfl ?_
    refine gfX4_37 ly17 dX4_saying_63 ?_
    refine Rt.aload_n 1 dX4_saying_66 rfl ?_
    refine gfX4_208 ly17 dX4_saying_67 ?_
    refine Rt.iload_n 3 dX4_saying_70 rfl ?_
    obtain ⟨g6, h⟩ := gd h
    refine Rt.iast ly27 g6 dX4_saying_71 ?_
    refine Rt.aload_n 1 dX4_saying_72 rfl ?_
    refine Rt.dup dX4_saying_73 rfl ?_
    refine gfX4_208 ly17 dX4_saying_74 ?_
    refine Rt.iconst 1 dX4_saying_77 (by decide) ?_
    refine Rt.iadd dX4_saying_78 ?_
    refine pfX4_208 ly17 dX4_saying_79 ?_
    refine Rt.aload_n 1 dX4_saying_82 rfl ?_
    refine gfX4_208 ly17 dX4_saying_83 ?_
    obtain rfl := Option.some.inj h
    exact Rt.ret (v := some (.int ((upS (upS (upS σ 26 ((σ 17 23)).toNatClampNeg v1) 27 (((upS σ 26 ((σ 17 23)).toNatClampNeg v1) 17 23)).toNatClampNeg v2) 17 23 (((upS (upS σ 26 ((σ 17 23)).toNatClampNeg v1) 27 (((upS σ 26 ((σ 17 23)).toNatClampNeg v1) 17 23)).toNatClampNeg v2) 17 23) + (1 : Int32))) 17 23))) dX4_saying_86 rfl rfl rfl
  · replace h := (if_neg c4).symm.trans h
    refine Rt.aload_n 1 dX4_saying_46 rfl ?_
    refine Rt.iload_n 0 dX4_saying_47 rfl ?_
    obtain ⟨q3, e3, h⟩ := bnd h
    refine Rt.cV (mfX4_no s0 _ q3 e3) lkX4_60 ly17 rfl rfl rfl ⟨Nat.le_of_ble_eq_true rfl, Nat.le_of_ble_eq_true rfl⟩ (Nat.le_of_ble_eq_true rfl) rfl dX4_saying_48 ?_
    obtain rfl := Option.some.inj h
    exact Rt.ret (v := some (.int q3.1)) dX4_saying_51 rfl rfl rfl
def fX4_saying (v1 : Int32) (v2 : Int32) (σ : Sto) : Option (Int32 × Sto) := (fX4_isCell v1 σ).bind fun q1 => if q1.1 = 0 then (fX4_saying_b41 v1 v2 (-1 : Int32) q1.2) else ((fX4_isIn v2 (0 : Int32) (8 : Int32) q1.2).bind fun q2 => if q2.1 = 0 then (fX4_saying_b41 v1 v2 (-2 : Int32) q2.2) else (if (q2.2 17 23) = (8 : Int32) then (fX4_saying_b41 v1 v2 (-6 : Int32) q2.2) else (fX4_saying_b41 v1 v2 (0 : Int32) q2.2)))
set_option maxRecDepth 100000 in
set_option maxHeartbeats 4000000 in
theorem wfX4_saying (X : Scr) (v1 : Int32) (v2 : Int32) (σ : Sto) (z : Int32 × Sto) (h : fX4_saying v1 v2 σ = some z) : Rt X RX4 cX4_saying 4 (rmA 1 22) .ireturn 0 [(0, .ref 17), (1, .int v1), (2, .int v2)] [] σ (some (.int z.1)) z.2 := by
  unfold fX4_saying at h
  refine Rt.iload_n 1 dX4_saying_0 rfl ?_
  obtain ⟨q1, e1, h⟩ := bnd h
  refine Rt.cS (mfX4_isCell v1 _ q1 e1) lkX4_104 rfl ⟨Nat.le_of_ble_eq_true rfl, Nat.le_of_ble_eq_true rfl⟩ (Nat.le_of_ble_eq_true rfl) rfl dX4_saying_1 ?_
  refine Rt.if_ne 11 dX4_saying_4 (by decide) (fun c1 => ?_) (fun c1 => ?_)
  · replace h := (if_neg c1).symm.trans h
    refine Rt.iload_n 2 dX4_saying_11 rfl ?_
    refine Rt.iconst 0 dX4_saying_12 (by decide) ?_
    refine Rt.bipush 8 dX4_saying_13 (by decide) ?_
    obtain ⟨q2, e2, h⟩ := bnd h
    refine Rt.cS (mfX4_isIn v2 (0 : Int32) (8 : Int32) _ q2 e2) lkX4_71 rfl ⟨Nat.le_of_ble_eq_true rfl, Nat.le_of_ble_eq_true rfl⟩ (Nat.le_of_ble_eq_true rfl) rfl dX4_saying_15 ?_
    refine Rt.if_ne 26 dX4_saying_18 (by decide) (fun c2 => ?_) (fun c2 => ?_)
    · replace h := (if_neg c2).symm.trans h
      refine Rt.aload_n 0 dX4_saying_26 rfl ?_
      refine gfX4_208 ly17 dX4_saying_27 ?_
      refine Rt.bipush 8 dX4_saying_30 (by decide) ?_
      refine Rt.icmp_ne 40 dX4_saying_32 (by decide) (fun c3 => ?_) (fun c3 => ?_)
      · replace h := (if_neg c3).symm.trans h
        refine Rt.iconst 0 dX4_saying_40 (by decide) ?_
        exact wfX4_saying_b41 X v1 v2 (0 : Int32) _ z h
      · replace h := (if_pos c3).symm.trans h
        refine Rt.bipush (-6) dX4_saying_35 (by decide) ?_
        refine Rt.goto 41 dX4_saying_37 (by decide) ?_
        exact wfX4_saying_b41 X v1 v2 (-6 : Int32) _ z h
    · replace h := (if_pos c2).symm.trans h
      refine Rt.bipush (-2) dX4_saying_21 (by decide) ?_
      refine Rt.goto 41 dX4_saying_23 (by decide) ?_
      exact wfX4_saying_b41 X v1 v2 (-2 : Int32) _ z h
  · replace h := (if_pos c1).symm.trans h
    refine Rt.iconst (-1) dX4_saying_7 (by decide) ?_
    refine Rt.goto 41 dX4_saying_8 (by decide) ?_
    exact wfX4_saying_b41 X v1 v2 (-1 : Int32) _ z h
set_option maxRecDepth 100000 in
set_option maxHeartbeats 4000000 in
theorem mfX4_saying (v1 : Int32) (v2 : Int32) (σ : Sto) (z : Int32 × Sto) (h : fX4_saying v1 v2 σ = some z) : AM yX4_saying cX4_saying 4 (some .int) 1 22 [.ref 17, .int v1, .int v2] σ (some (.int z.1)) z.2 := AM.int rfl (Nat.le_of_ble_eq_true rfl) (fun X => wfX4_saying X v1 v2 σ z h)
-- fX4_hush
def fX4_hush (σ : Sto) : Option (Int32 × Sto) := some ((σ 17 23), (upS σ 17 23 (0 : Int32)))
set_option maxRecDepth 100000 in
set_option maxHeartbeats 4000000 in
theorem wfX4_hush (X : Scr) (σ : Sto) (z : Int32 × Sto) (h : fX4_hush σ = some z) : Rt X RX4 cX4_hush 2 (rmA 0 0) .ireturn 0 [(0, .ref 17)] [] σ (some (.int z.1)) z.2 := by
  unfold fX4_hush at h
  refine Rt.aload_n 0 dX4_hush_0 rfl ?_
  refine gfX4_208 ly17 dX4_hush_1 ?_
  refine Rt.istore_n [(1, _), (0, _)] dX4_hush_4 (by decide) rfl ?_
  refine Rt.aload_n 1 dX4_hush_5 rfl ?_
  refine Rt.iconst 0 dX4_hush_6 (by decide) ?_
  refine pfX4_208 ly17 dX4_hush_7 ?_
  refine Rt.iload_n 0 dX4_hush_10 rfl ?_
  obtain rfl := Option.some.inj h
  exact Rt.ret (v := some (.int (σ 17 23))) dX4_hush_11 rfl rfl rfl
set_option maxRecDepth 100000 in
set_option maxHeartbeats 4000000 in
theorem mfX4_hush (σ : Sto) (z : Int32 × Sto) (h : fX4_hush σ = some z) : AM yX4_hush cX4_hush 2 (some .int) 0 0 [.ref 17] σ (some (.int z.1)) z.2 := AM.int rfl (Nat.le_of_ble_eq_true rfl) (fun X => wfX4_hush X σ z h)
-- fX4_rightBy
def fX4_rightBy_b46 (k6 : Int32 → Int32 → Int32 → Int32 → Int32 → Sto → Option (Int32 × Sto)) (v1 : Int32) (v2 : Int32) (v3 : Int32) (v5 : Int32) (s0 : Int32) (s1 : Int32) (σ : Sto) : Option (Int32 × Sto) := k6 v1 v2 v3 (s1 + s0) (v5 + (1 : Int32)) σ
set_option maxRecDepth 100000 in
set_option maxHeartbeats 4000000 in
theorem wfX4_rightBy_b46 (X : Scr) (k6 : Int32 → Int32 → Int32 → Int32 → Int32 → Sto → Option (Int32 × Sto)) (hk6 : ∀ (v1 : Int32) (v2 : Int32) (v3 : Int32) (v4 : Int32) (v5 : Int32) (σ : Sto) (z : Int32 × Sto), k6 v1 v2 v3 v4 v5 σ = some z → Rt X RX4 cX4_rightBy 6 (rmA 2 48) .ireturn 6 [(0, .ref 17), (1, .int v1), (2, .int v2), (3, .int v3), (4, .int v4), (5, .int v5)] [] σ (some (.int z.1)) z.2) (v1 : Int32) (v2 : Int32) (v3 : Int32) (v5 : Int32) (s0 : Int32) (s1 : Int32) (σ : Sto) (z : Int32 × Sto) (h : fX4_rightBy_b46 k6 v1 v2 v3 v5 s0 s1 σ = some z) : Rt X RX4 cX4_rightBy 6 (rmA 2 48) .ireturn 46 [(0, .ref 17), (1, .int v1), (2, .int v2), (3, .int v3), (5, .int v5)] [.int s0, .int s1] σ (some (.int z.1)) z.2 := by
  unfold fX4_rightBy_b46 at h
  refine Rt.iadd dX4_rightBy_46 ?_
  refine Rt.istore [(4, _), (0, _), (1, _), (2, _), (3, _), (5, _)] dX4_rightBy_47 (by decide) rfl ?_
  refine Rt.iinc [(5, _), (4, _), (0, _), (1, _), (2, _), (3, _)] (v5 + (1 : Int32)) 5 dX4_rightBy_49 rfl rfl (by decide) rfl ?_
  refine Rt.goto 6 dX4_rightBy_52 (by decide) ?_
  refine Rt.pick [2, 3, 4, 5, 1, 0] rfl ?_
  exact hk6 v1 v2 v3 (s1 + s0) (v5 + (1 : Int32)) _ z h
def fX4_rightBy_l6 : Nat → Int32 → Int32 → Int32 → Int32 → Int32 → Sto → Option (Int32 × Sto)
  | 0, _, _, _, _, _, _ => none
  | n + 1, v1, v2, v3, v4, v5, σ => if (σ 17 23) ≤ v5 then (some (v4, σ)) else (if inb v5 8 = true then ((fX4_wordBy (σ 26 (v5).toNatClampNeg) v1 v2 v3 σ).bind fun q1 => if inb v5 8 = true then (if q1.1 = (q1.2 27 (v5).toNatClampNeg) then (fX4_rightBy_b46 (fun a0 a1 a2 a3 a4 s => fX4_rightBy_l6 n a0 a1 a2 a3 a4 s) v1 v2 v3 v5 (1 : Int32) v4 q1.2) else (fX4_rightBy_b46 (fun a0 a1 a2 a3 a4 s => fX4_rightBy_l6 n a0 a1 a2 a3 a4 s) v1 v2 v3 v5 (0 : Int32) v4 q1.2)) else none) else none)
set_option maxRecDepth 100000 in
set_option maxHeartbeats 4000000 in
theorem wfX4_rightBy_l6 (X : Scr) : ∀ (n : Nat) (v1 : Int32) (v2 : Int32) (v3 : Int32) (v4 : Int32) (v5 : Int32) (σ : Sto) (z : Int32 × Sto), fX4_rightBy_l6 n v1 v2 v3 v4 v5 σ = some z → Rt X RX4 cX4_rightBy 6 (rmA 2 48) .ireturn 6 [(0, .ref 17), (1, .int v1), (2, .int v2), (3, .int v3), (4, .int v4), (5, .int v5)] [] σ (some (.int z.1)) z.2 := by
  intro n
  induction n with
  | zero =>
    intro v1 v2 v3 v4 v5 σ z h
    rw [fX4_rightBy_l6] at h
    cases h
  | succ n ih =>
    intro v1 v2 v3 v4 v5 σ z h
    rw [fX4_rightBy_l6] at h
    refine Rt.iload 5 dX4_rightBy_6 rfl ?_
    refine Rt.aload_n 0 dX4_rightBy_8 rfl ?_
    refine gfX4_208 ly17 dX4_rightBy_9 ?_
    refine Rt.icmp_ge 55 dX4_rightBy_12 (by decide) (fun c1 => ?_) (fun c1 => ?_)
    · replace h := (if_pos c1).symm.trans h
      refine Rt.iload 4 dX4_rightBy_55 rfl ?_
      obtain rfl := Option.some.inj h
      exact Rt.ret (v := some (.int v4)) dX4_rightBy_57 rfl rfl rfl
    · replace h := (if_neg c1).symm.trans h
      refine Rt.iload 4 dX4_rightBy_15 rfl ?_
      refine Rt.aload_n 0 dX4_rightBy_17 rfl ?_
      refine Rt.aload_n 0 dX4_rightBy_18 rfl ?_
      refine gfX4_34 ly17 dX4_rightBy_19 ?_
      refine Rt.iload 5 dX4_rightBy_22 rfl ?_
      obtain ⟨g2, h⟩ := gd h
      refine Rt.iald ly26 g2 dX4_rightBy_24 ?_
      refine Rt.iload_n 1 dX4_rightBy_25 rfl ?_
      refine Rt.iload_n 2 dX4_rightBy_26 rfl ?_
      refine Rt.iload_n 3 dX4_rightBy_27 rfl ?_
      obtain ⟨q1, e1, h⟩ := bnd h
      refine Rt.cV (mfX4_wordBy (σ 26 (v5).toNatClampNeg) v1 v2 v3 _ q1 e1) lkX4_163 ly17 rfl rfl rfl ⟨Nat.le_of_ble_eq_true rfl, Nat.le_of_ble_eq_true rfl⟩ (Nat.le_of_ble_eq_true rfl) rfl dX4_rightBy_28 ?_
      refine Rt.aload_n 0 dX4_rightBy_31 rfl ?_
      refine gfX4_37 ly17 dX4_rightBy_32 ?_
      refine Rt.iload 5 dX4_rightBy_35 rfl ?_
      obtain ⟨g3, h⟩ := gd h
      refine Rt.iald ly27 g3 dX4_rightBy_37 ?_
      refine Rt.icmp_ne 45 dX4_rightBy_38 (by decide) (fun c4 => ?_) (fun c4 => ?_)
      · replace h := (if_neg c4).symm.trans h
        refine Rt.iconst 0 dX4_rightBy_45 (by decide) ?_
        refine Rt.pick [0, 1, 2, 3, 5] rfl ?_
        exact wfX4_rightBy_b46 X (fun a0 a1 a2 a3 a4 s => fX4_rightBy_l6 n a0 a1 a2 a3 a4 s) ih v1 v2 v3 v5 (0 : Int32) v4 _ z h
      · replace h := (if_pos c4).symm.trans h
        refine Rt.iconst 1 dX4_rightBy_41 (by decide) ?_
        refine Rt.goto 46 dX4_rightBy_42 (by decide) ?_
        refine Rt.pick [0, 1, 2, 3, 5] rfl ?_
        exact wfX4_rightBy_b46 X (fun a0 a1 a2 a3 a4 s => fX4_rightBy_l6 n a0 a1 a2 a3 a4 s) ih v1 v2 v3 v5 (1 : Int32) v4 _ z h
def fX4_rightBy (v1 : Int32) (v2 : Int32) (v3 : Int32) (σ : Sto) : Option (Int32 × Sto) := fX4_rightBy_l6 300 v1 v2 v3 (0 : Int32) (0 : Int32) σ
set_option maxRecDepth 100000 in
set_option maxHeartbeats 4000000 in
theorem wfX4_rightBy (X : Scr) (v1 : Int32) (v2 : Int32) (v3 : Int32) (σ : Sto) (z : Int32 × Sto) (h : fX4_rightBy v1 v2 v3 σ = some z) : Rt X RX4 cX4_rightBy 6 (rmA 2 48) .ireturn 0 [(0, .ref 17), (1, .int v1), (2, .int v2), (3, .int v3)] [] σ (some (.int z.1)) z.2 := by
  unfold fX4_rightBy at h
  refine Rt.iconst 0 dX4_rightBy_0 (by decide) ?_
  refine Rt.istore [(4, _), (0, _), (1, _), (2, _), (3, _)] dX4_rightBy_1 (by decide) rfl ?_
  refine Rt.iconst 0 dX4_rightBy_3 (by decide) ?_
  refine Rt.istore [(5, _), (4, _), (0, _), (1, _), (2, _), (3, _)] dX4_rightBy_4 (by decide) rfl ?_
  refine Rt.pick [2, 3, 4, 5, 1, 0] rfl ?_
  exact wfX4_rightBy_l6 X 300 v1 v2 v3 (0 : Int32) (0 : Int32) _ z h
set_option maxRecDepth 100000 in
set_option maxHeartbeats 4000000 in
theorem mfX4_rightBy (v1 : Int32) (v2 : Int32) (v3 : Int32) (σ : Sto) (z : Int32 × Sto) (h : fX4_rightBy v1 v2 v3 σ = some z) : AM yX4_rightBy cX4_rightBy 6 (some .int) 2 48 [.ref 17, .int v1, .int v2, .int v3] σ (some (.int z.1)) z.2 := AM.int rfl (Nat.le_of_ble_eq_true rfl) (fun X => wfX4_rightBy X v1 v2 v3 σ z h)
-- fX4_mayBy
def fX4_mayBy_b36 (k5 : Int32 → Int32 → Int32 → Int32 → Sto → Option (Int32 × Sto)) (v1 : Int32) (v2 : Int32) (v4 : Int32) (s0 : Int32) (s1 : Int32) (σ : Sto) : Option (Int32 × Sto) := k5 v1 v2 (s1 ||| s0) (v4 + (1 : Int32)) σ
set_option maxRecDepth 100000 in
set_option maxHeartbeats 4000000 in
theorem wfX4_mayBy_b36 (X : Scr) (k5 : Int32 → Int32 → Int32 → Int32 → Sto → Option (Int32 × Sto)) (hk5 : ∀ (v1 : Int32) (v2 : Int32) (v3 : Int32) (v4 : Int32) (σ : Sto) (z : Int32 × Sto), k5 v1 v2 v3 v4 σ = some z → Rt X RX4 cX4_mayBy 5 (rmA 3 73) .ireturn 5 [(0, .ref 17), (1, .int v1), (2, .int v2), (3, .int v3), (4, .int v4)] [] σ (some (.int z.1)) z.2) (v1 : Int32) (v2 : Int32) (v4 : Int32) (s0 : Int32) (s1 : Int32) (σ : Sto) (z : Int32 × Sto) (h : fX4_mayBy_b36 k5 v1 v2 v4 s0 s1 σ = some z) : Rt X RX4 cX4_mayBy 5 (rmA 3 73) .ireturn 36 [(0, .ref 17), (1, .int v1), (2, .int v2), (4, .int v4)] [.int s0, .int s1] σ (some (.int z.1)) z.2 := by
  unfold fX4_mayBy_b36 at h
  refine Rt.ior dX4_mayBy_36 ?_
  refine Rt.istore_n [(3, _), (0, _), (1, _), (2, _), (4, _)] dX4_mayBy_37 (by decide) rfl ?_
  refine Rt.iinc [(4, _), (3, _), (0, _), (1, _), (2, _)] (v4 + (1 : Int32)) 4 dX4_mayBy_38 rfl rfl (by decide) rfl ?_
  refine Rt.goto 5 dX4_mayBy_41 (by decide) ?_
  refine Rt.pick [2, 3, 4, 1, 0] rfl ?_
  exact hk5 v1 v2 (s1 ||| s0) (v4 + (1 : Int32)) _ z h
def fX4_mayBy_l5 : Nat → Int32 → Int32 → Int32 → Int32 → Sto → Option (Int32 × Sto)
  | 0, _, _, _, _, _ => none
  | n + 1, v1, v2, v3, v4, σ => if (24 : Int32) ≤ v4 then (some (v3, σ)) else ((fX4_rightBy v4 v1 v2 σ).bind fun q1 => if q1.1 = (q1.2 17 23) then (fX4_mayBy_b36 (fun a0 a1 a2 a3 s => fX4_mayBy_l5 n a0 a1 a2 a3 s) v1 v2 v4 (ishl5 (1 : Int32) v4) v3 q1.2) else (fX4_mayBy_b36 (fun a0 a1 a2 a3 s => fX4_mayBy_l5 n a0 a1 a2 a3 s) v1 v2 v4 (0 : Int32) v3 q1.2))
set_option maxRecDepth 100000 in
set_option maxHeartbeats 4000000 in
theorem wfX4_mayBy_l5 (X : Scr) : ∀ (n : Nat) (v1 : Int32) (v2 : Int32) (v3 : Int32) (v4 : Int32) (σ : Sto) (z : Int32 × Sto), fX4_mayBy_l5 n v1 v2 v3 v4 σ = some z → Rt X RX4 cX4_mayBy 5 (rmA 3 73) .ireturn 5 [(0, .ref 17), (1, .int v1), (2, .int v2), (3, .int v3), (4, .int v4)] [] σ (some (.int z.1)) z.2 := by
  intro n
  induction n with
  | zero =>
    intro v1 v2 v3 v4 σ z h
    rw [fX4_mayBy_l5] at h
    cases h
  | succ n ih =>
    intro v1 v2 v3 v4 σ z h
    rw [fX4_mayBy_l5] at h
    refine Rt.iload 4 dX4_mayBy_5 rfl ?_
    refine Rt.bipush 24 dX4_mayBy_7 (by decide) ?_
    refine Rt.icmp_ge 44 dX4_mayBy_9 (by decide) (fun c1 => ?_) (fun c1 => ?_)
    · replace h := (if_pos c1).symm.trans h
      refine Rt.iload_n 3 dX4_mayBy_44 rfl ?_
      obtain rfl := Option.some.inj h
      exact Rt.ret (v := some (.int v3)) dX4_mayBy_45 rfl rfl rfl
    · replace h := (if_neg c1).symm.trans h
      refine Rt.iload_n 3 dX4_mayBy_12 rfl ?_
      refine Rt.aload_n 0 dX4_mayBy_13 rfl ?_
      refine Rt.iload 4 dX4_mayBy_14 rfl ?_
      refine Rt.iload_n 1 dX4_mayBy_16 rfl ?_
      refine Rt.iload_n 2 dX4_mayBy_17 rfl ?_
      obtain ⟨q1, e1, h⟩ := bnd h
      refine Rt.cV (mfX4_rightBy v4 v1 v2 _ q1 e1) lkX4_211 ly17 rfl rfl rfl ⟨Nat.le_of_ble_eq_true rfl, Nat.le_of_ble_eq_true rfl⟩ (Nat.le_of_ble_eq_true rfl) rfl dX4_mayBy_18 ?_
      refine Rt.aload_n 0 dX4_mayBy_21 rfl ?_
      refine gfX4_208 ly17 dX4_mayBy_22 ?_
      refine Rt.icmp_ne 35 dX4_mayBy_25 (by decide) (fun c2 => ?_) (fun c2 => ?_)
      · replace h := (if_neg c2).symm.trans h
        refine Rt.iconst 0 dX4_mayBy_35 (by decide) ?_
        refine Rt.pick [0, 1, 2, 4] rfl ?_
        exact wfX4_mayBy_b36 X (fun a0 a1 a2 a3 s => fX4_mayBy_l5 n a0 a1 a2 a3 s) ih v1 v2 v4 (0 : Int32) v3 _ z h
      · replace h := (if_pos c2).symm.trans h
        refine Rt.iconst 1 dX4_mayBy_28 (by decide) ?_
        refine Rt.iload 4 dX4_mayBy_29 rfl ?_
        refine Rt.shl dX4_mayBy_31 ?_
        refine Rt.goto 36 dX4_mayBy_32 (by decide) ?_
        refine Rt.pick [0, 1, 2, 4] rfl ?_
        exact wfX4_mayBy_b36 X (fun a0 a1 a2 a3 s => fX4_mayBy_l5 n a0 a1 a2 a3 s) ih v1 v2 v4 (ishl5 (1 : Int32) v4) v3 _ z h
def fX4_mayBy (v1 : Int32) (v2 : Int32) (σ : Sto) : Option (Int32 × Sto) := fX4_mayBy_l5 300 v1 v2 (0 : Int32) (0 : Int32) σ
set_option maxRecDepth 100000 in
set_option maxHeartbeats 4000000 in
theorem wfX4_mayBy (X : Scr) (v1 : Int32) (v2 : Int32) (σ : Sto) (z : Int32 × Sto) (h : fX4_mayBy v1 v2 σ = some z) : Rt X RX4 cX4_mayBy 5 (rmA 3 73) .ireturn 0 [(0, .ref 17), (1, .int v1), (2, .int v2)] [] σ (some (.int z.1)) z.2 := by
  unfold fX4_mayBy at h
  refine Rt.iconst 0 dX4_mayBy_0 (by decide) ?_
  refine Rt.istore_n [(3, _), (0, _), (1, _), (2, _)] dX4_mayBy_1 (by decide) rfl ?_
  refine Rt.iconst 0 dX4_mayBy_2 (by decide) ?_
  refine Rt.istore [(4, _), (3, _), (0, _), (1, _), (2, _)] dX4_mayBy_3 (by decide) rfl ?_
  refine Rt.pick [2, 3, 4, 1, 0] rfl ?_
  exact wfX4_mayBy_l5 X 300 v1 v2 (0 : Int32) (0 : Int32) _ z h
set_option maxRecDepth 100000 in
set_option maxHeartbeats 4000000 in
theorem mfX4_mayBy (v1 : Int32) (v2 : Int32) (σ : Sto) (z : Int32 × Sto) (h : fX4_mayBy v1 v2 σ = some z) : AM yX4_mayBy cX4_mayBy 5 (some .int) 3 73 [.ref 17, .int v1, .int v2] σ (some (.int z.1)) z.2 := AM.int rfl (Nat.le_of_ble_eq_true rfl) (fun X => wfX4_mayBy X v1 v2 σ z h)
-- fX4_may
def fX4_may_l41 : Nat → Int32 → Int32 → Sto → Option (Int32 × Sto)
  | 0, _, _, _ => none
  | n + 1, v2, v3, σ => if (8 : Int32) ≤ v3 then (some (v2, σ)) else ((fX4_mayBy (v3 / (4 : Int32)) ((2 : Int32) + (irm v3 (4 : Int32))) σ).bind fun q2 => fX4_may_l41 n (v2 ||| q2.1) (v3 + (1 : Int32)) q2.2)
set_option maxRecDepth 100000 in
set_option maxHeartbeats 4000000 in
theorem wfX4_may_l41 (X : Scr) : ∀ (n : Nat) (v2 : Int32) (v3 : Int32) (σ : Sto) (z : Int32 × Sto), fX4_may_l41 n v2 v3 σ = some z → Rt X RX4 cX4_may 4 (rmA 4 97) .ireturn 41 [(0, .ref 17), (2, .int v2), (3, .int v3)] [] σ (some (.int z.1)) z.2 := by
  intro n
  induction n with
  | zero =>
    intro v2 v3 σ z h
    rw [fX4_may_l41] at h
    cases h
  | succ n ih =>
    intro v2 v3 σ z h
    rw [fX4_may_l41] at h
    refine Rt.iload_n 2 dX4_may_41 rfl ?_
    refine Rt.bipush 8 dX4_may_42 (by decide) ?_
    refine Rt.icmp_ge 68 dX4_may_44 (by decide) (fun c3 => ?_) (fun c3 => ?_)
    · replace h := (if_pos c3).symm.trans h
      refine Rt.iload_n 1 dX4_may_68 rfl ?_
      obtain rfl := Option.some.inj h
      exact Rt.ret (v := some (.int v2)) dX4_may_69 rfl rfl rfl
    · replace h := (if_neg c3).symm.trans h
      refine Rt.iload_n 1 dX4_may_47 rfl ?_
      refine Rt.aload_n 0 dX4_may_48 rfl ?_
      refine Rt.iload_n 2 dX4_may_49 rfl ?_
      refine Rt.iconst 4 dX4_may_50 (by decide) ?_
      refine Rt.idiv dX4_may_51 (by decide) ?_
      refine Rt.iconst 2 dX4_may_52 (by decide) ?_
      refine Rt.iload_n 2 dX4_may_53 rfl ?_
      refine Rt.iconst 4 dX4_may_54 (by decide) ?_
      refine Rt.rem dX4_may_55 (by decide) ?_
      refine Rt.iadd dX4_may_56 ?_
      obtain ⟨q2, e2, h⟩ := bnd h
      refine Rt.cV (mfX4_mayBy (v3 / (4 : Int32)) ((2 : Int32) + (irm v3 (4 : Int32))) _ q2 e2) lkX4_214 ly17 rfl rfl rfl ⟨Nat.le_of_ble_eq_true rfl, Nat.le_of_ble_eq_true rfl⟩ (Nat.le_of_ble_eq_true rfl) rfl dX4_may_57 ?_
      refine Rt.ior dX4_may_60 ?_
      refine Rt.istore_n [(2, _), (0, _), (3, _)] dX4_may_61 (by decide) rfl ?_
      refine Rt.iinc [(3, _), (2, _), (0, _)] (v3 + (1 : Int32)) 2 dX4_may_62 rfl rfl (by decide) rfl ?_
      refine Rt.goto 41 dX4_may_65 (by decide) ?_
      refine Rt.pick [2, 1, 0] rfl ?_
      exact ih (v2 ||| q2.1) (v3 + (1 : Int32)) _ z h
def fX4_may (v1 : Int32) (σ : Sto) : Option (Int32 × Sto) := (fX4_isIn v1 (0 : Int32) (1 : Int32) σ).bind fun q1 => if q1.1 = 0 then ((fX4_no (-2 : Int32) q1.2).bind fun q4 => some (q4.1, q4.2)) else (if v1 = 0 then (if inb (0 : Int32) 4 = true then (if inb (2 : Int32) 4 = true then ((fX4_mayBy (q1.2 20 ((0 : Int32)).toNatClampNeg) (q1.2 20 ((2 : Int32)).toNatClampNeg) q1.2).bind fun q3 => some (q3.1, q3.2)) else none) else none) else (fX4_may_l41 300 (0 : Int32) (0 : Int32) q1.2))
set_option maxRecDepth 100000 in
set_option maxHeartbeats 4000000 in
theorem wfX4_may (X : Scr) (v1 : Int32) (σ : Sto) (z : Int32 × Sto) (h : fX4_may v1 σ = some z) : Rt X RX4 cX4_may 4 (rmA 4 97) .ireturn 0 [(0, .ref 17), (1, .int v1)] [] σ (some (.int z.1)) z.2 := by
  unfold fX4_may at h
  refine Rt.iload_n 1 dX4_may_0 rfl ?_
  refine Rt.iconst 0 dX4_may_1 (by decide) ?_
  refine Rt.iconst 1 dX4_may_2 (by decide) ?_
  obtain ⟨q1, e1, h⟩ := bnd h
  refine Rt.cS (mfX4_isIn v1 (0 : Int32) (1 : Int32) _ q1 e1) lkX4_71 rfl ⟨Nat.le_of_ble_eq_true rfl, Nat.le_of_ble_eq_true rfl⟩ (Nat.le_of_ble_eq_true rfl) rfl dX4_may_3 ?_
  refine Rt.if_ne 16 dX4_may_6 (by decide) (fun c1 => ?_) (fun c1 => ?_)
  · replace h := (if_neg c1).symm.trans h
    refine Rt.iload_n 1 dX4_may_16 rfl ?_
    refine Rt.if_ne 37 dX4_may_17 (by decide) (fun c2 => ?_) (fun c2 => ?_)
    · replace h := (if_neg c2).symm.trans h
      refine Rt.iconst 0 dX4_may_37 (by decide) ?_
      refine Rt.istore_n [(2, _), (0, _), (1, _)] dX4_may_38 (by decide) rfl ?_
      refine Rt.iconst 0 dX4_may_39 (by decide) ?_
      refine Rt.istore_n [(3, _), (2, _), (0, _), (1, _)] dX4_may_40 (by decide) rfl ?_
      refine Rt.pick [2, 1, 0] rfl ?_
      exact wfX4_may_l41 X 300 (0 : Int32) (0 : Int32) _ z h
    · replace h := (if_pos c2).symm.trans h
      refine Rt.aload_n 0 dX4_may_20 rfl ?_
      refine Rt.aload_n 0 dX4_may_21 rfl ?_
      refine gfX4_16 ly17 dX4_may_22 ?_
      refine Rt.iconst 0 dX4_may_25 (by decide) ?_
      obtain ⟨g4, h⟩ := gd h
      refine Rt.iald ly20 g4 dX4_may_26 ?_
      refine Rt.aload_n 0 dX4_may_27 rfl ?_
      refine gfX4_16 ly17 dX4_may_28 ?_
      refine Rt.iconst 2 dX4_may_31 (by decide) ?_
      obtain ⟨g5, h⟩ := gd h
      refine Rt.iald ly20 g5 dX4_may_32 ?_
      obtain ⟨q3, e3, h⟩ := bnd h
      refine Rt.cV (mfX4_mayBy (q1.2 20 ((0 : Int32)).toNatClampNeg) (q1.2 20 ((2 : Int32)).toNatClampNeg) _ q3 e3) lkX4_214 ly17 rfl rfl rfl ⟨Nat.le_of_ble_eq_true rfl, Nat.le_of_ble_eq_true rfl⟩ (Nat.le_of_ble_eq_true rfl) rfl dX4_may_33 ?_
      obtain rfl := Option.some.inj h
      exact Rt.ret (v := some (.int q3.1)) dX4_may_36 rfl rfl rfl
  · replace h := (if_pos c1).symm.trans h
    refine Rt.aload_n 0 dX4_may_9 rfl ?_
    refine Rt.bipush (-2) dX4_may_10 (by decide) ?_
    obtain ⟨q4, e4, h⟩ := bnd h
    refine Rt.cV (mfX4_no (-2 : Int32) _ q4 e4) lkX4_60 ly17 rfl rfl rfl ⟨Nat.le_of_ble_eq_true rfl, Nat.le_of_ble_eq_true rfl⟩ (Nat.le_of_ble_eq_true rfl) rfl dX4_may_12 ?_
    obtain rfl := Option.some.inj h
    exact Rt.ret (v := some (.int q4.1)) dX4_may_15 rfl rfl rfl
set_option maxRecDepth 100000 in
set_option maxHeartbeats 4000000 in
theorem mfX4_may (v1 : Int32) (σ : Sto) (z : Int32 × Sto) (h : fX4_may v1 σ = some z) : AM yX4_may cX4_may 4 (some .int) 4 97 [.ref 17, .int v1] σ (some (.int z.1)) z.2 := AM.int rfl (Nat.le_of_ble_eq_true rfl) (fun X => wfX4_may X v1 σ z h)
-- fX4_heMany
def fX4_heMany_b31 (k4 : Int32 → Int32 → Sto → Option (Int32 × Sto)) (v2 : Int32) (s0 : Int32) (s1 : Int32) (σ : Sto) : Option (Int32 × Sto) := k4 (s1 + s0) (v2 + (1 : Int32)) σ
set_option maxRecDepth 100000 in
set_option maxHeartbeats 4000000 in
theorem wfX4_heMany_b31 (X : Scr) (k4 : Int32 → Int32 → Sto → Option (Int32 × Sto)) (hk4 : ∀ (v1 : Int32) (v2 : Int32) (σ : Sto) (z : Int32 × Sto), k4 v1 v2 σ = some z → Rt X RX4 cX4_heMany 3 (rmA 4 97) .ireturn 4 [(0, .ref 17), (1, .int v1), (2, .int v2)] [] σ (some (.int z.1)) z.2) (v2 : Int32) (s0 : Int32) (s1 : Int32) (σ : Sto) (z : Int32 × Sto) (h : fX4_heMany_b31 k4 v2 s0 s1 σ = some z) : Rt X RX4 cX4_heMany 3 (rmA 4 97) .ireturn 31 [(0, .ref 17), (2, .int v2)] [.int s0, .int s1] σ (some (.int z.1)) z.2 := by
  unfold fX4_heMany_b31 at h
  refine Rt.iadd dX4_heMany_31 ?_
  refine Rt.istore_n [(1, _), (0, _), (2, _)] dX4_heMany_32 (by decide) rfl ?_
  refine Rt.iinc [(2, _), (1, _), (0, _)] (v2 + (1 : Int32)) 2 dX4_heMany_33 rfl rfl (by decide) rfl ?_
  refine Rt.goto 4 dX4_heMany_36 (by decide) ?_
  refine Rt.pick [2, 1, 0] rfl ?_
  exact hk4 (s1 + s0) (v2 + (1 : Int32)) _ z h
def fX4_heMany_l4 : Nat → Int32 → Int32 → Sto → Option (Int32 × Sto)
  | 0, _, _, _ => none
  | n + 1, v1, v2, σ => if (8 : Int32) ≤ v2 then (some (v1, σ)) else ((fX4_mayBy (v2 / (4 : Int32)) ((2 : Int32) + (irm v2 (4 : Int32))) σ).bind fun q1 => if q1.1 = 0 then (fX4_heMany_b31 (fun a0 a1 s => fX4_heMany_l4 n a0 a1 s) v2 (0 : Int32) v1 q1.2) else (fX4_heMany_b31 (fun a0 a1 s => fX4_heMany_l4 n a0 a1 s) v2 (1 : Int32) v1 q1.2))
set_option maxRecDepth 100000 in
set_option maxHeartbeats 4000000 in
theorem wfX4_heMany_l4 (X : Scr) : ∀ (n : Nat) (v1 : Int32) (v2 : Int32) (σ : Sto) (z : Int32 × Sto), fX4_heMany_l4 n v1 v2 σ = some z → Rt X RX4 cX4_heMany 3 (rmA 4 97) .ireturn 4 [(0, .ref 17), (1, .int v1), (2, .int v2)] [] σ (some (.int z.1)) z.2 := by
  intro n
  induction n with
  | zero =>
    intro v1 v2 σ z h
    rw [fX4_heMany_l4] at h
    cases h
  | succ n ih =>
    intro v1 v2 σ z h
    rw [fX4_heMany_l4] at h
    refine Rt.iload_n 2 dX4_heMany_4 rfl ?_
    refine Rt.bipush 8 dX4_heMany_5 (by decide) ?_
    refine Rt.icmp_ge 39 dX4_heMany_7 (by decide) (fun c1 => ?_) (fun c1 => ?_)
    · replace h := (if_pos c1).symm.trans h
      refine Rt.iload_n 1 dX4_heMany_39 rfl ?_
      obtain rfl := Option.some.inj h
      exact Rt.ret (v := some (.int v1)) dX4_heMany_40 rfl rfl rfl
    · replace h := (if_neg c1).symm.trans h
      refine Rt.iload_n 1 dX4_heMany_10 rfl ?_
      refine Rt.aload_n 0 dX4_heMany_11 rfl ?_
      refine Rt.iload_n 2 dX4_heMany_12 rfl ?_
      refine Rt.iconst 4 dX4_heMany_13 (by decide) ?_
      refine Rt.idiv dX4_heMany_14 (by decide) ?_
      refine Rt.iconst 2 dX4_heMany_15 (by decide) ?_
      refine Rt.iload_n 2 dX4_heMany_16 rfl ?_
      refine Rt.iconst 4 dX4_heMany_17 (by decide) ?_
      refine Rt.rem dX4_heMany_18 (by decide) ?_
      refine Rt.iadd dX4_heMany_19 ?_
      obtain ⟨q1, e1, h⟩ := bnd h
      refine Rt.cV (mfX4_mayBy (v2 / (4 : Int32)) ((2 : Int32) + (irm v2 (4 : Int32))) _ q1 e1) lkX4_214 ly17 rfl rfl rfl ⟨Nat.le_of_ble_eq_true rfl, Nat.le_of_ble_eq_true rfl⟩ (Nat.le_of_ble_eq_true rfl) rfl dX4_heMany_20 ?_
      refine Rt.if_eq 30 dX4_heMany_23 (by decide) (fun c2 => ?_) (fun c2 => ?_)
      · replace h := (if_pos c2).symm.trans h
        refine Rt.iconst 0 dX4_heMany_30 (by decide) ?_
        refine Rt.pick [0, 2] rfl ?_
        exact wfX4_heMany_b31 X (fun a0 a1 s => fX4_heMany_l4 n a0 a1 s) ih v2 (0 : Int32) v1 _ z h
      · replace h := (if_neg c2).symm.trans h
        refine Rt.iconst 1 dX4_heMany_26 (by decide) ?_
        refine Rt.goto 31 dX4_heMany_27 (by decide) ?_
        refine Rt.pick [0, 2] rfl ?_
        exact wfX4_heMany_b31 X (fun a0 a1 s => fX4_heMany_l4 n a0 a1 s) ih v2 (1 : Int32) v1 _ z h
def fX4_heMany (σ : Sto) : Option (Int32 × Sto) := fX4_heMany_l4 300 (0 : Int32) (0 : Int32) σ
set_option maxRecDepth 100000 in
set_option maxHeartbeats 4000000 in
theorem wfX4_heMany (X : Scr) (σ : Sto) (z : Int32 × Sto) (h : fX4_heMany σ = some z) : Rt X RX4 cX4_heMany 3 (rmA 4 97) .ireturn 0 [(0, .ref 17)] [] σ (some (.int z.1)) z.2 := by
  unfold fX4_heMany at h
  refine Rt.iconst 0 dX4_heMany_0 (by decide) ?_
  refine Rt.istore_n [(1, _), (0, _)] dX4_heMany_1 (by decide) rfl ?_
  refine Rt.iconst 0 dX4_heMany_2 (by decide) ?_
  refine Rt.istore_n [(2, _), (1, _), (0, _)] dX4_heMany_3 (by decide) rfl ?_
  refine Rt.pick [2, 1, 0] rfl ?_
  exact wfX4_heMany_l4 X 300 (0 : Int32) (0 : Int32) _ z h
set_option maxRecDepth 100000 in
set_option maxHeartbeats 4000000 in
theorem mfX4_heMany (σ : Sto) (z : Int32 × Sto) (h : fX4_heMany σ = some z) : AM yX4_heMany cX4_heMany 3 (some .int) 4 97 [.ref 17] σ (some (.int z.1)) z.2 := AM.int rfl (Nat.le_of_ble_eq_true rfl) (fun X => wfX4_heMany X σ z h)
-- fX4_weightOf
def fX4_weightOf_l21 : Nat → Int64 → Int32 → Sto → Option (Int64 × Sto)
  | 0, _, _, _ => none
  | n + 1, v2, v4, σ => if v4 ≤ 0 then (some (v2, σ)) else (fX4_weightOf_l21 n (v2 * (72 : Int64)) (v4 + (-1 : Int32)) σ)
set_option maxRecDepth 100000 in
set_option maxHeartbeats 4000000 in
theorem wfX4_weightOf_l21 (X : Scr) : ∀ (n : Nat) (v2 : Int64) (v4 : Int32) (σ : Sto) (z : Int64 × Sto), fX4_weightOf_l21 n v2 v4 σ = some z → Rt X RX4 cX4_weightOf 5 (rmA 3 73) .lreturn 21 [(2, .long v2), (4, .int v4)] [] σ (some (.long z.1)) z.2 := by
  intro n
  induction n with
  | zero =>
    intro v2 v4 σ z h
    rw [fX4_weightOf_l21] at h
    cases h
  | succ n ih =>
    intro v2 v4 σ z h
    rw [fX4_weightOf_l21] at h
    refine Rt.iload 1 dX4_weightOf_21 rfl ?_
    refine Rt.if_le 38 dX4_weightOf_23 (by decide) (fun c3 => ?_) (fun c3 => ?_)
    · replace h := (if_pos c3).symm.trans h
      refine Rt.lload_n 0 dX4_weightOf_38 rfl ?_
      obtain rfl := Option.some.inj h
      exact Rt.ret (v := some (.long v2)) dX4_weightOf_39 rfl rfl rfl
    · replace h := (if_neg c3).symm.trans h
      refine Rt.lload_n 0 dX4_weightOf_26 rfl ?_
      refine Rt.ldc2 72 clX4_217 dX4_weightOf_27 ?_
      refine Rt.lmul dX4_weightOf_30 ?_
      refine Rt.lstore_n [(2, _), (4, _)] dX4_weightOf_31 (by decide) rfl ?_
      refine Rt.iinc [(4, _), (2, _)] (v4 + (-1 : Int32)) 1 dX4_weightOf_32 rfl rfl (by decide) rfl ?_
      refine Rt.goto 21 dX4_weightOf_35 (by decide) ?_
      refine Rt.pick [1, 0] rfl ?_
      exact ih (v2 * (72 : Int64)) (v4 + (-1 : Int32)) _ z h
def fX4_weightOf (v1 : Int32) (σ : Sto) : Option (Int64 × Sto) := if inb (0 : Int32) 4 = true then (if inb (2 : Int32) 4 = true then ((fX4_rightBy v1 (σ 20 ((0 : Int32)).toNatClampNeg) (σ 20 ((2 : Int32)).toNatClampNeg) σ).bind fun q1 => fX4_weightOf_l21 300 (1 : Int64) q1.1 q1.2) else none) else none
set_option maxRecDepth 100000 in
set_option maxHeartbeats 4000000 in
theorem wfX4_weightOf (X : Scr) (v1 : Int32) (σ : Sto) (z : Int64 × Sto) (h : fX4_weightOf v1 σ = some z) : Rt X RX4 cX4_weightOf 5 (rmA 3 73) .lreturn 0 [(0, .ref 17), (1, .int v1)] [] σ (some (.long z.1)) z.2 := by
  unfold fX4_weightOf at h
  refine Rt.lconst 1 dX4_weightOf_0 (by decide) ?_
  refine Rt.lstore_n [(2, _), (0, _), (1, _)] dX4_weightOf_1 (by decide) rfl ?_
  refine Rt.aload_n 1 dX4_weightOf_2 rfl ?_
  refine Rt.iload_n 2 dX4_weightOf_3 rfl ?_
  refine Rt.aload_n 1 dX4_weightOf_4 rfl ?_
  refine gfX4_16 ly17 dX4_weightOf_5 ?_
  refine Rt.iconst 0 dX4_weightOf_8 (by decide) ?_
  obtain ⟨g1, h⟩ := gd h
  refine Rt.iald ly20 g1 dX4_weightOf_9 ?_
  refine Rt.aload_n 1 dX4_weightOf_10 rfl ?_
  refine gfX4_16 ly17 dX4_weightOf_11 ?_
  refine Rt.iconst 2 dX4_weightOf_14 (by decide) ?_
  obtain ⟨g2, h⟩ := gd h
  refine Rt.iald ly20 g2 dX4_weightOf_15 ?_
  obtain ⟨q1, e1, h⟩ := bnd h
  refine Rt.cV (mfX4_rightBy v1 (σ 20 ((0 : Int32)).toNatClampNeg) (σ 20 ((2 : Int32)).toNatClampNeg) _ q1 e1) lkX4_211 ly17 rfl rfl rfl ⟨Nat.le_of_ble_eq_true rfl, Nat.le_of_ble_eq_true rfl⟩ (Nat.le_of_ble_eq_true rfl) rfl dX4_weightOf_16 ?_
  refine Rt.istore [(4, _), (2, _), (0, _), (1, _)] dX4_weightOf_19 (by decide) rfl ?_
  refine Rt.pick [1, 0] rfl ?_
  exact wfX4_weightOf_l21 X 300 (1 : Int64) q1.1 _ z h
set_option maxRecDepth 100000 in
set_option maxHeartbeats 4000000 in
theorem mfX4_weightOf (v1 : Int32) (σ : Sto) (z : Int64 × Sto) (h : fX4_weightOf v1 σ = some z) : AM yX4_weightOf cX4_weightOf 5 (some .long) 3 73 [.ref 17, .int v1] σ (some (.long z.1)) z.2 := AM.long rfl (Nat.le_of_ble_eq_true rfl) (fun X => wfX4_weightOf X v1 σ z h)
-- fX4_odds
def fX4_odds_l34 : Nat → Int32 → Int32 → Int64 → Int32 → Sto → Option (Int64 × Sto)
  | 0, _, _, _, _, _ => none
  | n + 1, v1, v2, v3, v5, σ => if (24 : Int32) ≤ v5 then ((fX4_weightOf v1 σ).bind fun q3 => (fX4_partOf q3.1 v3 v2 q3.2).bind fun q4 => some (q4.1, q4.2)) else ((fX4_weightOf v5 σ).bind fun q5 => fX4_odds_l34 n v1 v2 (v3 + q5.1) (v5 + (1 : Int32)) q5.2)
set_option maxRecDepth 100000 in
set_option maxHeartbeats 4000000 in
theorem wfX4_odds_l34 (X : Scr) : ∀ (n : Nat) (v1 : Int32) (v2 : Int32) (v3 : Int64) (v5 : Int32) (σ : Sto) (z : Int64 × Sto), fX4_odds_l34 n v1 v2 v3 v5 σ = some z → Rt X RX4 cX4_odds 6 (rmA 4 97) .lreturn 34 [(0, .ref 17), (1, .int v1), (2, .int v2), (3, .long v3), (5, .int v5)] [] σ (some (.long z.1)) z.2 := by
  intro n
  induction n with
  | zero =>
    intro v1 v2 v3 v5 σ z h
    rw [fX4_odds_l34] at h
    cases h
  | succ n ih =>
    intro v1 v2 v3 v5 σ z h
    rw [fX4_odds_l34] at h
    refine Rt.iload 4 dX4_odds_34 rfl ?_
    refine Rt.bipush 24 dX4_odds_36 (by decide) ?_
    refine Rt.icmp_ge 56 dX4_odds_38 (by decide) (fun c3 => ?_) (fun c3 => ?_)
    · replace h := (if_pos c3).symm.trans h
      refine Rt.aload_n 0 dX4_odds_56 rfl ?_
      refine Rt.iload_n 1 dX4_odds_57 rfl ?_
      obtain ⟨q3, e3, h⟩ := bnd h
      refine Rt.cV (mfX4_weightOf v1 _ q3 e3) lkX4_219 ly17 rfl rfl rfl ⟨Nat.le_of_ble_eq_true rfl, Nat.le_of_ble_eq_true rfl⟩ (Nat.le_of_ble_eq_true rfl) rfl dX4_odds_58 ?_
      refine Rt.lload_n 3 dX4_odds_61 rfl ?_
      refine Rt.iload_n 2 dX4_odds_62 rfl ?_
      obtain ⟨q4, e4, h⟩ := bnd h
      refine Rt.cS (mfX4_partOf q3.1 v3 v2 _ q4 e4) lkX4_204 rfl ⟨Nat.le_of_ble_eq_true rfl, Nat.le_of_ble_eq_true rfl⟩ (Nat.le_of_ble_eq_true rfl) rfl dX4_odds_63 ?_
      obtain rfl := Option.some.inj h
      exact Rt.ret (v := some (.long q4.1)) dX4_odds_66 rfl rfl rfl
    · replace h := (if_neg c3).symm.trans h
      refine Rt.lload_n 3 dX4_odds_41 rfl ?_
      refine Rt.aload_n 0 dX4_odds_42 rfl ?_
      refine Rt.iload 4 dX4_odds_43 rfl ?_
      obtain ⟨q5, e5, h⟩ := bnd h
      refine Rt.cV (mfX4_weightOf v5 _ q5 e5) lkX4_219 ly17 rfl rfl rfl ⟨Nat.le_of_ble_eq_true rfl, Nat.le_of_ble_eq_true rfl⟩ (Nat.le_of_ble_eq_true rfl) rfl dX4_odds_45 ?_
      refine Rt.ladd dX4_odds_48 ?_
      refine Rt.lstore_n [(3, _), (0, _), (1, _), (2, _), (5, _)] dX4_odds_49 (by decide) rfl ?_
      refine Rt.iinc [(5, _), (3, _), (0, _), (1, _), (2, _)] (v5 + (1 : Int32)) 4 dX4_odds_50 rfl rfl (by decide) rfl ?_
      refine Rt.goto 34 dX4_odds_53 (by decide) ?_
      refine Rt.pick [2, 3, 4, 1, 0] rfl ?_
      exact ih v1 v2 (v3 + q5.1) (v5 + (1 : Int32)) _ z h
def fX4_odds (v1 : Int32) (v2 : Int32) (σ : Sto) : Option (Int64 × Sto) := (fX4_isCell v1 σ).bind fun q1 => if q1.1 = 0 then ((fX4_lowest (-1 : Int32) q1.2).bind fun q7 => some (q7.1, q7.2)) else ((fX4_isIn v2 (0 : Int32) (1 : Int32) q1.2).bind fun q2 => if q2.1 = 0 then ((fX4_lowest (-2 : Int32) q2.2).bind fun q6 => some (q6.1, q6.2)) else (fX4_odds_l34 300 v1 v2 (0 : Int64) (0 : Int32) q2.2))
set_option maxRecDepth 100000 in
set_option maxHeartbeats 4000000 in
theorem wfX4_odds (X : Scr) (v1 : Int32) (v2 : Int32) (σ : Sto) (z : Int64 × Sto) (h : fX4_odds v1 v2 σ = some z) : Rt X RX4 cX4_odds 6 (rmA 4 97) .lreturn 0 [(0, .ref 17), (1, .int v1), (2, .int v2)] [] σ (some (.long z.1)) z.2 := by
  unfold fX4_odds at h
  refine Rt.iload_n 1 dX4_odds_0 rfl ?_
  obtain ⟨q1, e1, h⟩ := bnd h
  refine Rt.cS (mfX4_isCell v1 _ q1 e1) lkX4_104 rfl ⟨Nat.le_of_ble_eq_true rfl, Nat.le_of_ble_eq_true rfl⟩ (Nat.le_of_ble_eq_true rfl) rfl dX4_odds_1 ?_
  refine Rt.if_ne 13 dX4_odds_4 (by decide) (fun c1 => ?_) (fun c1 => ?_)
  · replace h := (if_neg c1).symm.trans h
    refine Rt.iload_n 2 dX4_odds_13 rfl ?_
    refine Rt.iconst 0 dX4_odds_14 (by decide) ?_
    refine Rt.iconst 1 dX4_odds_15 (by decide) ?_
    obtain ⟨q2, e2, h⟩ := bnd h
    refine Rt.cS (mfX4_isIn v2 (0 : Int32) (1 : Int32) _ q2 e2) lkX4_71 rfl ⟨Nat.le_of_ble_eq_true rfl, Nat.le_of_ble_eq_true rfl⟩ (Nat.le_of_ble_eq_true rfl) rfl dX4_odds_16 ?_
    refine Rt.if_ne 29 dX4_odds_19 (by decide) (fun c2 => ?_) (fun c2 => ?_)
    · replace h := (if_neg c2).symm.trans h
      refine Rt.lconst 0 dX4_odds_29 (by decide) ?_
      refine Rt.lstore_n [(3, _), (0, _), (1, _), (2, _)] dX4_odds_30 (by decide) rfl ?_
      refine Rt.iconst 0 dX4_odds_31 (by decide) ?_
      refine Rt.istore [(5, _), (3, _), (0, _), (1, _), (2, _)] dX4_odds_32 (by decide) rfl ?_
      refine Rt.pick [2, 3, 4, 1, 0] rfl ?_
      exact wfX4_odds_l34 X 300 v1 v2 (0 : Int64) (0 : Int32) _ z h
    · replace h := (if_pos c2).symm.trans h
      refine Rt.aload_n 0 dX4_odds_22 rfl ?_
      refine Rt.bipush (-2) dX4_odds_23 (by decide) ?_
      obtain ⟨q6, e6, h⟩ := bnd h
      refine Rt.cV (mfX4_lowest (-2 : Int32) _ q6 e6) lkX4_195 ly17 rfl rfl rfl ⟨Nat.le_of_ble_eq_true rfl, Nat.le_of_ble_eq_true rfl⟩ (Nat.le_of_ble_eq_true rfl) rfl dX4_odds_25 ?_
      obtain rfl := Option.some.inj h
      exact Rt.ret (v := some (.long q6.1)) dX4_odds_28 rfl rfl rfl
  · replace h := (if_pos c1).symm.trans h
    refine Rt.aload_n 0 dX4_odds_7 rfl ?_
    refine Rt.iconst (-1) dX4_odds_8 (by decide) ?_
    obtain ⟨q7, e7, h⟩ := bnd h
    refine Rt.cV (mfX4_lowest (-1 : Int32) _ q7 e7) lkX4_195 ly17 rfl rfl rfl ⟨Nat.le_of_ble_eq_true rfl, Nat.le_of_ble_eq_true rfl⟩ (Nat.le_of_ble_eq_true rfl) rfl dX4_odds_9 ?_
    obtain rfl := Option.some.inj h
    exact Rt.ret (v := some (.long q7.1)) dX4_odds_12 rfl rfl rfl
set_option maxRecDepth 100000 in
set_option maxHeartbeats 4000000 in
theorem mfX4_odds (v1 : Int32) (v2 : Int32) (σ : Sto) (z : Int64 × Sto) (h : fX4_odds v1 v2 σ = some z) : AM yX4_odds cX4_odds 6 (some .long) 4 97 [.ref 17, .int v1, .int v2] σ (some (.long z.1)) z.2 := AM.long rfl (Nat.le_of_ble_eq_true rfl) (fun X => wfX4_odds X v1 v2 σ z h)
-- fX4_worstFrom
def fX4_worstFrom_b88 (k26 : Int32 → Int32 → Int32 → Int32 → Sto → Option (Int32 × Sto)) (v1 : Int32) (v2 : Int32) (v3 : Int32) (v4 : Int32) (σ : Sto) : Option (Int32 × Sto) := k26 v1 v2 v3 (v4 + (1 : Int32)) σ
set_option maxRecDepth 100000 in
set_option maxHeartbeats 4000000 in
theorem wfX4_worstFrom_b88 (X : Scr) (k26 : Int32 → Int32 → Int32 → Int32 → Sto → Option (Int32 × Sto)) (hk26 : ∀ (v1 : Int32) (v2 : Int32) (v3 : Int32) (v4 : Int32) (σ : Sto) (z : Int32 × Sto), k26 v1 v2 v3 v4 σ = some z → Rt X RX4 cX4_worstFrom 6 (rmA 3 70) .ireturn 26 [(0, .ref 17), (1, .int v1), (2, .int v2), (3, .int v3), (4, .int v4)] [] σ (some (.int z.1)) z.2) (v1 : Int32) (v2 : Int32) (v3 : Int32) (v4 : Int32) (σ : Sto) (z : Int32 × Sto) (h : fX4_worstFrom_b88 k26 v1 v2 v3 v4 σ = some z) : Rt X RX4 cX4_worstFrom 6 (rmA 3 70) .ireturn 88 [(0, .ref 17), (1, .int v1), (2, .int v2), (3, .int v3), (4, .int v4)] [] σ (some (.int z.1)) z.2 := by
  unfold fX4_worstFrom_b88 at h
  refine Rt.iinc [(4, _), (0, _), (1, _), (2, _), (3, _)] (v4 + (1 : Int32)) 4 dX4_worstFrom_88 rfl rfl (by decide) rfl ?_
  refine Rt.goto 26 dX4_worstFrom_91 (by decide) ?_
  refine Rt.pick [1, 2, 3, 4, 0] rfl ?_
  exact hk26 v1 v2 v3 (v4 + (1 : Int32)) _ z h
def fX4_worstFrom_b87 (k26 : Int32 → Int32 → Int32 → Int32 → Sto → Option (Int32 × Sto)) (v1 : Int32) (v2 : Int32) (v4 : Int32) (s0 : Int32) (σ : Sto) : Option (Int32 × Sto) := fX4_worstFrom_b88 k26 v1 v2 s0 v4 σ
set_option maxRecDepth 100000 in
set_option maxHeartbeats 4000000 in
theorem wfX4_worstFrom_b87 (X : Scr) (k26 : Int32 → Int32 → Int32 → Int32 → Sto → Option (Int32 × Sto)) (hk26 : ∀ (v1 : Int32) (v2 : Int32) (v3 : Int32) (v4 : Int32) (σ : Sto) (z : Int32 × Sto), k26 v1 v2 v3 v4 σ = some z → Rt X RX4 cX4_worstFrom 6 (rmA 3 70) .ireturn 26 [(0, .ref 17), (1, .int v1), (2, .int v2), (3, .int v3), (4, .int v4)] [] σ (some (.int z.1)) z.2) (v1 : Int32) (v2 : Int32) (v4 : Int32) (s0 : Int32) (σ : Sto) (z : Int32 × Sto) (h : fX4_worstFrom_b87 k26 v1 v2 v4 s0 σ = some z) : Rt X RX4 cX4_worstFrom 6 (rmA 3 70) .ireturn 87 [(0, .ref 17), (1, .int v1), (2, .int v2), (4, .int v4)] [.int s0] σ (some (.int z.1)) z.2 := by
  unfold fX4_worstFrom_b87 at h
  refine Rt.istore_n [(3, _), (0, _), (1, _), (2, _), (4, _)] dX4_worstFrom_87 (by decide) rfl ?_
  refine Rt.pick [1, 2, 3, 0, 4] rfl ?_
  exact wfX4_worstFrom_b88 X k26 hk26 v1 v2 s0 v4 _ z h
def fX4_worstFrom_b65 (k26 : Int32 → Int32 → Int32 → Int32 → Sto → Option (Int32 × Sto)) (v1 : Int32) (v2 : Int32) (v3 : Int32) (v4 : Int32) (v5 : Int32) (σ : Sto) : Option (Int32 × Sto) := if inb v5 10 = true then (if (σ 28 (v5).toNatClampNeg) ≤ v3 then (fX4_worstFrom_b87 k26 v1 v2 v4 v3 σ) else (if inb v5 10 = true then (fX4_worstFrom_b87 k26 v1 v2 v4 (σ 28 (v5).toNatClampNeg) σ) else none)) else none
set_option maxRecDepth 100000 in
set_option maxHeartbeats 4000000 in
theorem wfX4_worstFrom_b65 (X : Scr) (k26 : Int32 → Int32 → Int32 → Int32 → Sto → Option (Int32 × Sto)) (hk26 : ∀ (v1 : Int32) (v2 : Int32) (v3 : Int32) (v4 : Int32) (σ : Sto) (z : Int32 × Sto), k26 v1 v2 v3 v4 σ = some z → Rt X RX4 cX4_worstFrom 6 (rmA 3 70) .ireturn 26 [(0, .ref 17), (1, .int v1), (2, .int v2), (3, .int v3), (4, .int v4)] [] σ (some (.int z.1)) z.2) (v1 : Int32) (v2 : Int32) (v3 : Int32) (v4 : Int32) (v5 : Int32) (σ : Sto) (z : Int32 × Sto) (h : fX4_worstFrom_b65 k26 v1 v2 v3 v4 v5 σ = some z) : Rt X RX4 cX4_worstFrom 6 (rmA 3 70) .ireturn 65 [(0, .ref 17), (1, .int v1), (2, .int v2), (3, .int v3), (4, .int v4), (5, .int v5)] [] σ (some (.int z.1)) z.2 := by
  unfold fX4_worstFrom_b65 at h
  refine Rt.aload_n 0 dX4_worstFrom_65 rfl ?_
  refine gfX4_40 ly17 dX4_worstFrom_66 ?_
  refine Rt.iload 5 dX4_worstFrom_69 rfl ?_
  obtain ⟨g6, h⟩ := gd h
  refine Rt.iald ly28 g6 dX4_worstFrom_71 ?_
  refine Rt.iload_n 3 dX4_worstFrom_72 rfl ?_
  refine Rt.icmp_le 86 dX4_worstFrom_73 (by decide) (fun c7 => ?_) (fun c7 => ?_)
  · replace h := (if_pos c7).symm.trans h
    refine Rt.iload_n 3 dX4_worstFrom_86 rfl ?_
    refine Rt.pick [0, 1, 2, 4] rfl ?_
    exact wfX4_worstFrom_b87 X k26 hk26 v1 v2 v4 v3 _ z h
  · replace h := (if_neg c7).symm.trans h
    refine Rt.aload_n 0 dX4_worstFrom_76 rfl ?_
    refine gfX4_40 ly17 dX4_worstFrom_77 ?_
    refine Rt.iload 5 dX4_worstFrom_80 rfl ?_
    obtain ⟨g8, h⟩ := gd h
    refine Rt.iald ly28 g8 dX4_worstFrom_82 ?_
    refine Rt.goto 87 dX4_worstFrom_83 (by decide) ?_
    refine Rt.pick [0, 1, 2, 4] rfl ?_
    exact wfX4_worstFrom_b87 X k26 hk26 v1 v2 v4 (σ 28 (v5).toNatClampNeg) _ z h
def fX4_worstFrom_l26 : Nat → Int32 → Int32 → Int32 → Int32 → Sto → Option (Int32 × Sto)
  | 0, _, _, _, _, _ => none
  | n + 1, v1, v2, v3, v4, σ => if (24 : Int32) ≤ v4 then (some (v3, σ)) else (if ((ishr5 v2 v4) &&& (1 : Int32)) = 0 then (fX4_worstFrom_b88 (fun a0 a1 a2 a3 s => fX4_worstFrom_l26 n a0 a1 a2 a3 s) v1 v2 v3 v4 σ) else ((fX4_wordFrom v1 v4 σ).bind fun q1 => if inb q1.1 10 = true then (if inb q1.1 10 = true then (fX4_worstFrom_b65 (fun a0 a1 a2 a3 s => fX4_worstFrom_l26 n a0 a1 a2 a3 s) v1 v2 v3 v4 q1.1 (upS q1.2 28 (q1.1).toNatClampNeg ((q1.2 28 (q1.1).toNatClampNeg) + (1 : Int32)))) else none) else none))
set_option maxRecDepth 100000 in
set_option maxHeartbeats 4000000 in
theorem wfX4_worstFrom_l26 (X : Scr) : ∀ (n : Nat) (v1 : Int32) (v2 : Int32) (v3 : Int32) (v4 : Int32) (σ : Sto) (z : Int32 × Sto), fX4_worstFrom_l26 n v1 v2 v3 v4 σ = some z → Rt X RX4 cX4_worstFrom 6 (rmA 3 70) .ireturn 26 [(0, .ref 17), (1, .int v1), (2, .int v2), (3, .int v3), (4, .int v4)] [] σ (some (.int z.1)) z.2 := by
  intro n
  induction n with
  | zero =>
    intro v1 v2 v3 v4 σ z h
    rw [fX4_worstFrom_l26] at h
    cases h
  | succ n ih =>
    intro v1 v2 v3 v4 σ z h
    rw [fX4_worstFrom_l26] at h
    refine Rt.iload 4 dX4_worstFrom_26 rfl ?_
    refine Rt.bipush 24 dX4_worstFrom_28 (by decide) ?_
    refine Rt.icmp_ge 94 dX4_worstFrom_30 (by decide) (fun c2 => ?_) (fun c2 => ?_)
    · replace h := (if_pos c2).symm.trans h
      refine Rt.iload_n 3 dX4_worstFrom_94 rfl ?_
      obtain rfl := Option.some.inj h
      exact Rt.ret (v := some (.int v3)) dX4_worstFrom_95 rfl rfl rfl
    · replace h := (if_neg c2).symm.trans h
      refine Rt.iload_n 2 dX4_worstFrom_33 rfl ?_
      refine Rt.iload 4 dX4_worstFrom_34 rfl ?_
      refine Rt.shr dX4_worstFrom_36 ?_
      refine Rt.iconst 1 dX4_worstFrom_37 (by decide) ?_
      refine Rt.iand dX4_worstFrom_38 ?_
      refine Rt.if_ne 45 dX4_worstFrom_39 (by decide) (fun c3 => ?_) (fun c3 => ?_)
      · replace h := (if_neg c3).symm.trans h
        refine Rt.aload_n 0 dX4_worstFrom_45 rfl ?_
        refine Rt.iload_n 1 dX4_worstFrom_46 rfl ?_
        refine Rt.iload 4 dX4_worstFrom_47 rfl ?_
        obtain ⟨q1, e1, h⟩ := bnd h
        refine Rt.cV (mfX4_wordFrom v1 v4 _ q1 e1) lkX4_170 ly17 rfl rfl rfl ⟨Nat.le_of_ble_eq_true rfl, Nat.le_of_ble_eq_true rfl⟩ (Nat.le_of_ble_eq_true rfl) rfl dX4_worstFrom_49 ?_
        refine Rt.istore [(5, _), (0, _), (1, _), (2, _), (3, _), (4, _)] dX4_worstFrom_52 (by decide) rfl ?_
        refine Rt.aload_n 1 dX4_worstFrom_54 rfl ?_
        refine gfX4_40 ly17 dX4_worstFrom_55 ?_
        refine Rt.iload 0 dX4_worstFrom_58 rfl ?_
        refine Rt.dup2 dX4_worstFrom_60 rfl rfl ?_
        obtain ⟨g4, h⟩ := gd h
        refine Rt.iald ly28 g4 dX4_worstFrom_61 ?_
        refine Rt.iconst 1 dX4_worstFrom_62 (by decide) ?_
        refine Rt.iadd dX4_worstFrom_63 ?_
        obtain ⟨g5, h⟩ := gd h
        refine Rt.iast ly28 g5 dX4_worstFrom_64 ?_
        refine Rt.pick [1, 2, 3, 4, 5, 0] rfl ?_
        exact wfX4_worstFrom_b65 X (fun a0 a1 a2 a3 s => fX4_worstFrom_l26 n a0 a1 a2 a3 s) ih v1 v2 v3 v4 q1.1 _ z h
      · replace h := (if_pos c3).symm.trans h
        refine Rt.goto 88 dX4_worstFrom_42 (by decide) ?_
        exact wfX4_worstFrom_b88 X (fun a0 a1 a2 a3 s => fX4_worstFrom_l26 n a0 a1 a2 a3 s) ih v1 v2 v3 v4 _ z h
def fX4_worstFrom_l2 : Nat → Int32 → Int32 → Int32 → Sto → Option (Int32 × Sto)
  | 0, _, _, _, _ => none
  | n + 1, v1, v2, v3, σ => if (10 : Int32) ≤ v3 then (fX4_worstFrom_l26 300 v1 v2 (0 : Int32) (0 : Int32) σ) else (if inb v3 10 = true then (fX4_worstFrom_l2 n v1 v2 (v3 + (1 : Int32)) (upS σ 28 (v3).toNatClampNeg (0 : Int32))) else none)
set_option maxRecDepth 100000 in
set_option maxHeartbeats 4000000 in
theorem wfX4_worstFrom_l2 (X : Scr) : ∀ (n : Nat) (v1 : Int32) (v2 : Int32) (v3 : Int32) (σ : Sto) (z : Int32 × Sto), fX4_worstFrom_l2 n v1 v2 v3 σ = some z → Rt X RX4 cX4_worstFrom 6 (rmA 3 70) .ireturn 2 [(0, .ref 17), (1, .int v1), (2, .int v2), (3, .int v3)] [] σ (some (.int z.1)) z.2 := by
  intro n
  induction n with
  | zero =>
    intro v1 v2 v3 σ z h
    rw [fX4_worstFrom_l2] at h
    cases h
  | succ n ih =>
    intro v1 v2 v3 σ z h
    rw [fX4_worstFrom_l2] at h
    refine Rt.iload_n 3 dX4_worstFrom_2 rfl ?_
    refine Rt.bipush 10 dX4_worstFrom_3 (by decide) ?_
    refine Rt.icmp_ge 21 dX4_worstFrom_5 (by decide) (fun c1 => ?_) (fun c1 => ?_)
    · replace h := (if_pos c1).symm.trans h
      refine Rt.iconst 0 dX4_worstFrom_21 (by decide) ?_
      refine Rt.istore_n [(3, _), (0, _), (1, _), (2, _)] dX4_worstFrom_22 (by decide) rfl ?_
      refine Rt.iconst 0 dX4_worstFrom_23 (by decide) ?_
      refine Rt.istore [(4, _), (3, _), (0, _), (1, _), (2, _)] dX4_worstFrom_24 (by decide) rfl ?_
      refine Rt.pick [2, 3, 4, 1, 0] rfl ?_
      exact wfX4_worstFrom_l26 X 300 v1 v2 (0 : Int32) (0 : Int32) _ z h
    · replace h := (if_neg c1).symm.trans h
      refine Rt.aload_n 0 dX4_worstFrom_8 rfl ?_
      refine gfX4_40 ly17 dX4_worstFrom_9 ?_
      refine Rt.iload_n 3 dX4_worstFrom_12 rfl ?_
      refine Rt.iconst 0 dX4_worstFrom_13 (by decide) ?_
      obtain ⟨g9, h⟩ := gd h
      refine Rt.iast ly28 g9 dX4_worstFrom_14 ?_
      refine Rt.iinc [(3, _), (0, _), (1, _), (2, _)] (v3 + (1 : Int32)) 3 dX4_worstFrom_15 rfl rfl (by decide) rfl ?_
      refine Rt.goto 2 dX4_worstFrom_18 (by decide) ?_
      refine Rt.pick [1, 2, 3, 0] rfl ?_
      exact ih v1 v2 (v3 + (1 : Int32)) _ z h
def fX4_worstFrom (v1 : Int32) (v2 : Int32) (σ : Sto) : Option (Int32 × Sto) := fX4_worstFrom_l2 300 v1 v2 (0 : Int32) σ
set_option maxRecDepth 100000 in
set_option maxHeartbeats 4000000 in
theorem wfX4_worstFrom (X : Scr) (v1 : Int32) (v2 : Int32) (σ : Sto) (z : Int32 × Sto) (h : fX4_worstFrom v1 v2 σ = some z) : Rt X RX4 cX4_worstFrom 6 (rmA 3 70) .ireturn 0 [(0, .ref 17), (1, .int v1), (2, .int v2)] [] σ (some (.int z.1)) z.2 := by
  unfold fX4_worstFrom at h
  refine Rt.iconst 0 dX4_worstFrom_0 (by decide) ?_
  refine Rt.istore_n [(3, _), (0, _), (1, _), (2, _)] dX4_worstFrom_1 (by decide) rfl ?_
  refine Rt.pick [1, 2, 3, 0] rfl ?_
  exact wfX4_worstFrom_l2 X 300 v1 v2 (0 : Int32) _ z h
set_option maxRecDepth 100000 in
set_option maxHeartbeats 4000000 in
theorem mfX4_worstFrom (v1 : Int32) (v2 : Int32) (σ : Sto) (z : Int32 × Sto) (h : fX4_worstFrom v1 v2 σ = some z) : AM yX4_worstFrom cX4_worstFrom 6 (some .int) 3 70 [.ref 17, .int v1, .int v2] σ (some (.int z.1)) z.2 := AM.int rfl (Nat.le_of_ble_eq_true rfl) (fun X => wfX4_worstFrom X v1 v2 σ z h)
