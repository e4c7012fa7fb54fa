-- fX4_next_
def fX4_next__b83 (k50 : Int32 → Int32 → Int32 → Int32 → Int32 → Sto → Option (Int32 × Sto)) (v1 : Int32) (v2 : Int32) (v3 : Int32) (v4 : Int32) (v5 : Int32) (σ : Sto) : Option (Int32 × Sto) := k50 v1 v2 v3 v4 (v5 + (1 : Int32)) σ
set_option maxRecDepth 100000 in
set_option maxHeartbeats 4000000 in
theorem wfX4_next__b83 (X : Scr) (k50 : Int32 → Int32 → Int32 → Int32 → Int32 → Sto → Option (Int32 × Sto)) (hk50 : ∀ (v1 : Int32) (v2 : Int32) (v3 : Int32) (v4 : Int32) (v5 : Int32) (σ : Sto) (z : Int32 × Sto), k50 v1 v2 v3 v4 v5 σ = some z → Rt X RX4 cX4_next_ 7 (rmA 4 97) .ireturn 50 [(0, .ref 17), (1, .int v1), (2, .int v2), (3, .int v3), (4, .int v4), (5, .int v5)] [] σ (some (.int z.1)) z.2) (v1 : Int32) (v2 : Int32) (v3 : Int32) (v4 : Int32) (v5 : Int32) (σ : Sto) (z : Int32 × Sto) (h : fX4_next__b83 k50 v1 v2 v3 v4 v5 σ = some z) : Rt X RX4 cX4_next_ 7 (rmA 4 97) .ireturn 83 [(0, .ref 17), (1, .int v1), (2, .int v2), (3, .int v3), (4, .int v4), (5, .int v5)] [] σ (some (.int z.1)) z.2 := by
  unfold fX4_next__b83 at h
  refine Rt.iinc [(5, _), (0, _), (1, _), (2, _), (3, _), (4, _)] (v5 + (1 : Int32)) 5 dX4_next__83 rfl rfl (by decide) rfl ?_
  refine Rt.goto 50 dX4_next__86 (by decide) ?_
  refine Rt.pick [1, 2, 3, 4, 5, 0] rfl ?_
  exact hk50 v1 v2 v3 v4 (v5 + (1 : Int32)) _ z h
def fX4_next__l50 : Nat → Int32 → Int32 → Int32 → Int32 → Int32 → Sto → Option (Int32 × Sto)
  | 0, _, _, _, _, _, _ => none
  | n + 1, v1, v2, v3, v4, v5, σ => if (24 : Int32) ≤ v5 then (if v1 = 0 then (some (v3, σ)) else (some (v4, σ))) else ((fX4_worstFrom v5 v2 σ).bind fun q3 => if q3.1 < v4 then (fX4_next__b83 (fun a0 a1 a2 a3 a4 s => fX4_next__l50 n a0 a1 a2 a3 a4 s) v1 v2 v5 q3.1 v5 q3.2) else (fX4_next__b83 (fun a0 a1 a2 a3 a4 s => fX4_next__l50 n a0 a1 a2 a3 a4 s) v1 v2 v3 v4 v5 q3.2))
set_option maxRecDepth 100000 in
set_option maxHeartbeats 4000000 in
theorem wfX4_next__l50 (X : Scr) : ∀ (n : Nat) (v1 : Int32) (v2 : Int32) (v3 : Int32) (v4 : Int32) (v5 : Int32) (σ : Sto) (z : Int32 × Sto), fX4_next__l50 n v1 v2 v3 v4 v5 σ = some z → Rt X RX4 cX4_next_ 7 (rmA 4 97) .ireturn 50 [(0, .ref 17), (1, .int v1), (2, .int v2), (3, .int v3), (4, .int v4), (5, .int v5)] [] σ (some (.int z.1)) z.2 := by
  intro n
  induction n with
  | zero =>
    intro v1 v2 v3 v4 v5 σ z h
    rw [fX4_next__l50] at h
    cases h
  | succ n ih =>
    intro v1 v2 v3 v4 v5 σ z h
    rw [fX4_next__l50] at h
    refine Rt.iload 5 dX4_next__50 rfl ?_
    refine Rt.bipush 24 dX4_next__52 (by decide) ?_
    refine Rt.icmp_ge 89 dX4_next__54 (by decide) (fun c5 => ?_) (fun c5 => ?_)
    · replace h := (if_pos c5).symm.trans h
      refine Rt.iload_n 1 dX4_next__89 rfl ?_
      refine Rt.if_ne 97 dX4_next__90 (by decide) (fun c6 => ?_) (fun c6 => ?_)
      · replace h := (if_neg c6).symm.trans h
        refine Rt.iload 4 dX4_next__97 rfl ?_
        obtain rfl := Option.some.inj h
        exact Rt.ret (v := some (.int v4)) dX4_next__99 rfl rfl rfl
      · replace h := (if_pos c6).symm.trans h
        refine Rt.iload_n 3 dX4_next__93 rfl ?_
        refine Rt.goto 99 dX4_next__94 (by decide) ?_
        obtain rfl := Option.some.inj h
        exact Rt.ret (v := some (.int v3)) dX4_next__99 rfl rfl rfl
    · replace h := (if_neg c5).symm.trans h
      refine Rt.aload_n 0 dX4_next__57 rfl ?_
      refine Rt.iload 5 dX4_next__58 rfl ?_
      refine Rt.iload_n 2 dX4_next__60 rfl ?_
      obtain ⟨q3, e3, h⟩ := bnd h
      refine Rt.cV (mfX4_worstFrom v5 v2 _ q3 e3) lkX4_222 ly17 rfl rfl rfl ⟨Nat.le_of_ble_eq_true rfl, Nat.le_of_ble_eq_true rfl⟩ (Nat.le_of_ble_eq_true rfl) rfl dX4_next__61 ?_
      refine Rt.istore [(6, _), (0, _), (1, _), (2, _), (3, _), (4, _), (5, _)] dX4_next__64 (by decide) rfl ?_
      refine Rt.iload 0 dX4_next__66 rfl ?_
      refine Rt.iload 5 dX4_next__68 rfl ?_
      refine Rt.icmp_lt 76 dX4_next__70 (by decide) (fun c7 => ?_) (fun c7 => ?_)
      · replace h := (if_pos c7).symm.trans h
        refine Rt.iload 6 dX4_next__76 rfl ?_
        refine Rt.istore_n [(3, _), (6, _), (0, _), (1, _), (2, _), (4, _), (5, _)] dX4_next__78 (by decide) rfl ?_
        refine Rt.iload 1 dX4_next__79 rfl ?_
        refine Rt.istore [(4, _), (3, _), (6, _), (0, _), (1, _), (2, _), (5, _)] dX4_next__81 (by decide) rfl ?_
        refine Rt.pick [3, 4, 5, 1, 0, 6] rfl ?_
        exact wfX4_next__b83 X (fun a0 a1 a2 a3 a4 s => fX4_next__l50 n a0 a1 a2 a3 a4 s) ih v1 v2 v5 q3.1 v5 _ z h
      · replace h := (if_neg c7).symm.trans h
        refine Rt.goto 83 dX4_next__73 (by decide) ?_
        refine Rt.pick [1, 2, 3, 4, 5, 6] rfl ?_
        exact wfX4_next__b83 X (fun a0 a1 a2 a3 a4 s => fX4_next__l50 n a0 a1 a2 a3 a4 s) ih v1 v2 v3 v4 v5 _ z h
def fX4_next_ (v1 : Int32) (σ : Sto) : Option (Int32 × Sto) := (fX4_isIn v1 (0 : Int32) (1 : Int32) σ).bind fun q1 => if q1.1 = 0 then ((fX4_no (-2 : Int32) q1.2).bind fun q4 => some (q4.1, q4.2)) else (if inb (0 : Int32) 4 = true then (if inb (2 : Int32) 4 = true then ((fX4_mayBy (q1.2 20 ((0 : Int32)).toNatClampNeg) (q1.2 20 ((2 : Int32)).toNatClampNeg) q1.2).bind fun q2 => if q2.1 = 0 then (some ((-9 : Int32), q2.2)) else (fX4_next__l50 300 v1 q2.1 (-9 : Int32) (99 : Int32) (0 : Int32) q2.2)) else none) else none)
set_option maxRecDepth 100000 in
set_option maxHeartbeats 4000000 in
theorem wfX4_next_ (X : Scr) (v1 : Int32) (σ : Sto) (z : Int32 × Sto) (h : fX4_next_ v1 σ = some z) : Rt X RX4 cX4_next_ 7 (rmA 4 97) .ireturn 0 [(0, .ref 17), (1, .int v1)] [] σ (some (.int z.1)) z.2 := by
  unfold fX4_next_ at h
  refine Rt.iload_n 1 dX4_next__0 rfl ?_
  refine Rt.iconst 0 dX4_next__1 (by decide) ?_
  refine Rt.iconst 1 dX4_next__2 (by decide) ?_
  obtain ⟨q1, e1, h⟩ := bnd h
  refine Rt.cS (mfX4_isIn v1 (0 : Int32) (1 : Int32) _ q1 e1) lkX4_71 rfl ⟨Nat.le_of_ble_eq_true rfl, Nat.le_of_ble_eq_true rfl⟩ (Nat.le_of_ble_eq_true rfl) rfl dX4_next__3 ?_
  refine Rt.if_ne 16 dX4_next__6 (by decide) (fun c1 => ?_) (fun c1 => ?_)
  · replace h := (if_neg c1).symm.trans h
    refine Rt.aload_n 0 dX4_next__16 rfl ?_
    refine Rt.aload_n 0 dX4_next__17 rfl ?_
    refine gfX4_16 ly17 dX4_next__18 ?_
    refine Rt.iconst 0 dX4_next__21 (by decide) ?_
    obtain ⟨g2, h⟩ := gd h
    refine Rt.iald ly20 g2 dX4_next__22 ?_
    refine Rt.aload_n 0 dX4_next__23 rfl ?_
    refine gfX4_16 ly17 dX4_next__24 ?_
    refine Rt.iconst 2 dX4_next__27 (by decide) ?_
    obtain ⟨g3, h⟩ := gd h
    refine Rt.iald ly20 g3 dX4_next__28 ?_
    obtain ⟨q2, e2, h⟩ := bnd h
    refine Rt.cV (mfX4_mayBy (q1.2 20 ((0 : Int32)).toNatClampNeg) (q1.2 20 ((2 : Int32)).toNatClampNeg) _ q2 e2) lkX4_214 ly17 rfl rfl rfl ⟨Nat.le_of_ble_eq_true rfl, Nat.le_of_ble_eq_true rfl⟩ (Nat.le_of_ble_eq_true rfl) rfl dX4_next__29 ?_
    refine Rt.istore_n [(2, _), (0, _), (1, _)] dX4_next__32 (by decide) rfl ?_
    refine Rt.iload_n 0 dX4_next__33 rfl ?_
    refine Rt.if_ne 40 dX4_next__34 (by decide) (fun c4 => ?_) (fun c4 => ?_)
    · replace h := (if_neg c4).symm.trans h
      refine Rt.bipush (-9) dX4_next__40 (by decide) ?_
      refine Rt.istore_n [(3, _), (2, _), (0, _), (1, _)] dX4_next__42 (by decide) rfl ?_
      refine Rt.bipush 99 dX4_next__43 (by decide) ?_
      refine Rt.istore [(4, _), (3, _), (2, _), (0, _), (1, _)] dX4_next__45 (by decide) rfl ?_
      refine Rt.iconst 0 dX4_next__47 (by decide) ?_
      refine Rt.istore [(5, _), (4, _), (3, _), (2, _), (0, _), (1, _)] dX4_next__48 (by decide) rfl ?_
      refine Rt.pick [4, 5, 3, 2, 1, 0] rfl ?_
      exact wfX4_next__l50 X 300 v1 q2.1 (-9 : Int32) (99 : Int32) (0 : Int32) _ z h
    · replace h := (if_pos c4).symm.trans h
      refine Rt.bipush (-9) dX4_next__37 (by decide) ?_
      obtain rfl := Option.some.inj h
      exact Rt.ret (v := some (.int (-9 : Int32))) dX4_next__39 rfl rfl rfl
  · replace h := (if_pos c1).symm.trans h
    refine Rt.aload_n 0 dX4_next__9 rfl ?_
    refine Rt.bipush (-2) dX4_next__10 (by decide) ?_
    obtain ⟨q4, e4, h⟩ := bnd h
    refine Rt.cV (mfX4_no (-2 : Int32) _ q4 e4) lkX4_60 ly17 rfl rfl rfl ⟨Nat.le_of_ble_eq_true rfl, Nat.le_of_ble_eq_true rfl⟩ (Nat.le_of_ble_eq_true rfl) rfl dX4_next__12 ?_
    obtain rfl := Option.some.inj h
    exact Rt.ret (v := some (.int q4.1)) dX4_next__15 rfl rfl rfl
set_option maxRecDepth 100000 in
set_option maxHeartbeats 4000000 in
theorem mfX4_next_ (v1 : Int32) (σ : Sto) (z : Int32 × Sto) (h : fX4_next_ v1 σ = some z) : AM yX4_next_ cX4_next_ 7 (some .int) 4 97 [.ref 17, .int v1] σ (some (.int z.1)) z.2 := AM.int rfl (Nat.le_of_ble_eq_true rfl) (fun X => wfX4_next_ X v1 σ z h)
-- fX4_stripBy
def fX4_stripBy_b81 (s0 : Int32) (σ : Sto) : Option (Int32 × Sto) := (fX4_passesAll (1 : Int32) (0 : Int32) σ).bind fun q2 => some (s0, q2.2)
set_option maxRecDepth 100000 in
set_option maxHeartbeats 4000000 in
theorem wfX4_stripBy_b81 (X : Scr) (s0 : Int32) (σ : Sto) (z : Int32 × Sto) (h : fX4_stripBy_b81 s0 σ = some z) : Rt X RX4 cX4_stripBy 5 (rmA 6 126) .ireturn 81 [(0, .ref 17)] [.int s0] σ (some (.int z.1)) z.2 := by
  unfold fX4_stripBy_b81 at h
  refine Rt.istore [(4, _), (0, _)] dX4_stripBy_81 (by decide) rfl ?_
  refine Rt.aload_n 1 dX4_stripBy_83 rfl ?_
  refine Rt.iconst 1 dX4_stripBy_84 (by decide) ?_
  refine Rt.iconst 0 dX4_stripBy_85 (by decide) ?_
  obtain ⟨q2, e2, h⟩ := bnd h
  refine Rt.cV0 (mfX4_passesAll (1 : Int32) (0 : Int32) _ q2 e2) lkX4_121 ly17 rfl rfl rfl ⟨Nat.le_of_ble_eq_true rfl, Nat.le_of_ble_eq_true rfl⟩ (Nat.le_of_ble_eq_true rfl) rfl dX4_stripBy_86 ?_
  refine Rt.iload 0 dX4_stripBy_89 rfl ?_
  obtain rfl := Option.some.inj h
  exact Rt.ret (v := some (.int s0)) dX4_stripBy_91 rfl rfl rfl
def fX4_stripBy_b66 (v3 : Int32) (σ : Sto) : Option (Int32 × Sto) := if (σ 17 4) = (24 : Int32) then (fX4_stripBy_b81 v3 σ) else (fX4_stripBy_b81 (-9 : Int32) σ)
set_option maxRecDepth 100000 in
set_option maxHeartbeats 4000000 in
theorem wfX4_stripBy_b66 (X : Scr) (v3 : Int32) (σ : Sto) (z : Int32 × Sto) (h : fX4_stripBy_b66 v3 σ = some z) : Rt X RX4 cX4_stripBy 5 (rmA 6 126) .ireturn 66 [(0, .ref 17), (3, .int v3)] [] σ (some (.int z.1)) z.2 := by
  unfold fX4_stripBy_b66 at h
  refine Rt.aload_n 0 dX4_stripBy_66 rfl ?_
  refine gfX4_101 ly17 dX4_stripBy_67 ?_
  refine Rt.bipush 24 dX4_stripBy_70 (by decide) ?_
  refine Rt.icmp_ne 79 dX4_stripBy_72 (by decide) (fun c3 => ?_) (fun c3 => ?_)
  · replace h := (if_neg c3).symm.trans h
    refine Rt.bipush (-9) dX4_stripBy_79 (by decide) ?_
    refine Rt.pick [0] rfl ?_
    exact wfX4_stripBy_b81 X (-9 : Int32) _ z h
  · replace h := (if_pos c3).symm.trans h
    refine Rt.iload_n 1 dX4_stripBy_75 rfl ?_
    refine Rt.goto 81 dX4_stripBy_76 (by decide) ?_
    refine Rt.pick [0] rfl ?_
    exact wfX4_stripBy_b81 X v3 _ z h
def fX4_stripBy_b57 (k20 : Int32 → Int32 → Int32 → Sto → Option (Int32 × Sto)) (v1 : Int32) (v2 : Int32) (v3 : Int32) (s0 : Int32) (σ : Sto) : Option (Int32 × Sto) := (fX4_strokes s0 σ).bind fun q3 => k20 v1 v2 (v3 + (1 : Int32)) q3.2
set_option maxRecDepth 100000 in
set_option maxHeartbeats 4000000 in
theorem wfX4_stripBy_b57 (X : Scr) (k20 : Int32 → Int32 → Int32 → Sto → Option (Int32 × Sto)) (hk20 : ∀ (v1 : Int32) (v2 : Int32) (v3 : Int32) (σ : Sto) (z : Int32 × Sto), k20 v1 v2 v3 σ = some z → Rt X RX4 cX4_stripBy 5 (rmA 6 126) .ireturn 20 [(0, .ref 17), (1, .int v1), (2, .int v2), (3, .int v3)] [] σ (some (.int z.1)) z.2) (v1 : Int32) (v2 : Int32) (v3 : Int32) (s0 : Int32) (σ : Sto) (z : Int32 × Sto) (h : fX4_stripBy_b57 k20 v1 v2 v3 s0 σ = some z) : Rt X RX4 cX4_stripBy 5 (rmA 6 126) .ireturn 57 [(0, .ref 17), (1, .int v1), (2, .int v2), (3, .int v3)] [.int s0, .ref 17] σ (some (.int z.1)) z.2 := by
  unfold fX4_stripBy_b57 at h
  obtain ⟨q3, e3, h⟩ := bnd h
  refine Rt.cV0 (mfX4_strokes s0 _ q3 e3) lkX4_113 ly17 rfl rfl rfl ⟨Nat.le_of_ble_eq_true rfl, Nat.le_of_ble_eq_true rfl⟩ (Nat.le_of_ble_eq_true rfl) rfl dX4_stripBy_57 ?_
  refine Rt.iinc [(3, _), (0, _), (1, _), (2, _)] (v3 + (1 : Int32)) 3 dX4_stripBy_60 rfl rfl (by decide) rfl ?_
  refine Rt.goto 20 dX4_stripBy_63 (by decide) ?_
  refine Rt.pick [1, 2, 3, 0] rfl ?_
  exact hk20 v1 v2 (v3 + (1 : Int32)) _ z h
def fX4_stripBy_l20 : Nat → Int32 → Int32 → Int32 → Sto → Option (Int32 × Sto)
  | 0, _, _, _, _ => none
  | n + 1, v1, v2, v3, σ => if (σ 17 4) = (24 : Int32) then (fX4_stripBy_b66 v3 σ) else (if v2 ≤ v3 then (fX4_stripBy_b66 v3 σ) else (if (4 : Int32) ≤ v1 then (fX4_stripBy_b57 (fun a0 a1 a2 s => fX4_stripBy_l20 n a0 a1 a2 s) v1 v2 v3 ((((6 : Int32) * v3) + v1) - (4 : Int32)) σ) else (fX4_stripBy_b57 (fun a0 a1 a2 s => fX4_stripBy_l20 n a0 a1 a2 s) v1 v2 v3 (((6 : Int32) * v1) + v3) σ)))
set_option maxRecDepth 100000 in
set_option maxHeartbeats 4000000 in
theorem wfX4_stripBy_l20 (X : Scr) : ∀ (n : Nat) (v1 : Int32) (v2 : Int32) (v3 : Int32) (σ : Sto) (z : Int32 × Sto), fX4_stripBy_l20 n v1 v2 v3 σ = some z → Rt X RX4 cX4_stripBy 5 (rmA 6 126) .ireturn 20 [(0, .ref 17), (1, .int v1), (2, .int v2), (3, .int v3)] [] σ (some (.int z.1)) z.2 := by
  intro n
  induction n with
  | zero =>
    intro v1 v2 v3 σ z h
    rw [fX4_stripBy_l20] at h
    cases h
  | succ n ih =>
    intro v1 v2 v3 σ z h
    rw [fX4_stripBy_l20] at h
    refine Rt.aload_n 0 dX4_stripBy_20 rfl ?_
    refine gfX4_101 ly17 dX4_stripBy_21 ?_
    refine Rt.bipush 24 dX4_stripBy_24 (by decide) ?_
    refine Rt.icmp_eq 66 dX4_stripBy_26 (by decide) (fun c2 => ?_) (fun c2 => ?_)
    · replace h := (if_pos c2).symm.trans h
      refine Rt.pick [0, 3] rfl ?_
      exact wfX4_stripBy_b66 X v3 _ z h
    · replace h := (if_neg c2).symm.trans h
      refine Rt.iload_n 3 dX4_stripBy_29 rfl ?_
      refine Rt.iload_n 2 dX4_stripBy_30 rfl ?_
      refine Rt.icmp_ge 66 dX4_stripBy_31 (by decide) (fun c4 => ?_) (fun c4 => ?_)
      · replace h := (if_pos c4).symm.trans h
        refine Rt.pick [0, 3] rfl ?_
        exact wfX4_stripBy_b66 X v3 _ z h
      · replace h := (if_neg c4).symm.trans h
        refine Rt.aload_n 0 dX4_stripBy_34 rfl ?_
        refine Rt.iload_n 1 dX4_stripBy_35 rfl ?_
        refine Rt.iconst 4 dX4_stripBy_36 (by decide) ?_
        refine Rt.icmp_ge 49 dX4_stripBy_37 (by decide) (fun c5 => ?_) (fun c5 => ?_)
        · replace h := (if_pos c5).symm.trans h
          refine Rt.bipush 6 dX4_stripBy_49 (by decide) ?_
          refine Rt.iload_n 3 dX4_stripBy_51 rfl ?_
          refine Rt.imul dX4_stripBy_52 ?_
          refine Rt.iload_n 1 dX4_stripBy_53 rfl ?_
          refine Rt.iadd dX4_stripBy_54 ?_
          refine Rt.iconst 4 dX4_stripBy_55 (by decide) ?_
          refine Rt.isub dX4_stripBy_56 ?_
          exact wfX4_stripBy_b57 X (fun a0 a1 a2 s => fX4_stripBy_l20 n a0 a1 a2 s) ih v1 v2 v3 ((((6 : Int32) * v3) + v1) - (4 : Int32)) _ z h
        · replace h := (if_neg c5).symm.trans h
          refine Rt.bipush 6 dX4_stripBy_40 (by decide) ?_
          refine Rt.iload_n 1 dX4_stripBy_42 rfl ?_
          refine Rt.imul dX4_stripBy_43 ?_
          refine Rt.iload_n 3 dX4_stripBy_44 rfl ?_
          refine Rt.iadd dX4_stripBy_45 ?_
          refine Rt.goto 57 dX4_stripBy_46 (by decide) ?_
          exact wfX4_stripBy_b57 X (fun a0 a1 a2 s => fX4_stripBy_l20 n a0 a1 a2 s) ih v1 v2 v3 (((6 : Int32) * v1) + v3) _ z h
def fX4_stripBy_b17 (v1 : Int32) (s0 : Int32) (σ : Sto) : Option (Int32 × Sto) := fX4_stripBy_l20 300 v1 s0 (0 : Int32) σ
set_option maxRecDepth 100000 in
set_option maxHeartbeats 4000000 in
theorem wfX4_stripBy_b17 (X : Scr) (v1 : Int32) (s0 : Int32) (σ : Sto) (z : Int32 × Sto) (h : fX4_stripBy_b17 v1 s0 σ = some z) : Rt X RX4 cX4_stripBy 5 (rmA 6 126) .ireturn 17 [(0, .ref 17), (1, .int v1)] [.int s0] σ (some (.int z.1)) z.2 := by
  unfold fX4_stripBy_b17 at h
  refine Rt.istore_n [(2, _), (0, _), (1, _)] dX4_stripBy_17 (by decide) rfl ?_
  refine Rt.iconst 0 dX4_stripBy_18 (by decide) ?_
  refine Rt.istore_n [(3, _), (2, _), (0, _), (1, _)] dX4_stripBy_19 (by decide) rfl ?_
  refine Rt.pick [2, 3, 1, 0] rfl ?_
  exact wfX4_stripBy_l20 X 300 v1 s0 (0 : Int32) _ z h
def fX4_stripBy (v1 : Int32) (σ : Sto) : Option (Int32 × Sto) := (fX4_passesAll (1 : Int32) (1 : Int32) σ).bind fun q1 => if (4 : Int32) ≤ v1 then (fX4_stripBy_b17 v1 (4 : Int32) q1.2) else (fX4_stripBy_b17 v1 (6 : Int32) q1.2)
set_option maxRecDepth 100000 in
set_option maxHeartbeats 4000000 in
theorem wfX4_stripBy (X : Scr) (v1 : Int32) (σ : Sto) (z : Int32 × Sto) (h : fX4_stripBy v1 σ = some z) : Rt X RX4 cX4_stripBy 5 (rmA 6 126) .ireturn 0 [(0, .ref 17), (1, .int v1)] [] σ (some (.int z.1)) z.2 := by
  unfold fX4_stripBy at h
  refine Rt.aload_n 0 dX4_stripBy_0 rfl ?_
  refine Rt.iconst 1 dX4_stripBy_1 (by decide) ?_
  refine Rt.iconst 1 dX4_stripBy_2 (by decide) ?_
  obtain ⟨q1, e1, h⟩ := bnd h
  refine Rt.cV0 (mfX4_passesAll (1 : Int32) (1 : Int32) _ q1 e1) lkX4_121 ly17 rfl rfl rfl ⟨Nat.le_of_ble_eq_true rfl, Nat.le_of_ble_eq_true rfl⟩ (Nat.le_of_ble_eq_true rfl) rfl dX4_stripBy_3 ?_
  refine Rt.iload_n 1 dX4_stripBy_6 rfl ?_
  refine Rt.iconst 4 dX4_stripBy_7 (by decide) ?_
  refine Rt.icmp_ge 16 dX4_stripBy_8 (by decide) (fun c1 => ?_) (fun c1 => ?_)
  · replace h := (if_pos c1).symm.trans h
    refine Rt.iconst 4 dX4_stripBy_16 (by decide) ?_
    exact wfX4_stripBy_b17 X v1 (4 : Int32) _ z h
  · replace h := (if_neg c1).symm.trans h
    refine Rt.bipush 6 dX4_stripBy_11 (by decide) ?_
    refine Rt.goto 17 dX4_stripBy_13 (by decide) ?_
    exact wfX4_stripBy_b17 X v1 (6 : Int32) _ z h
set_option maxRecDepth 100000 in
set_option maxHeartbeats 4000000 in
theorem mfX4_stripBy (v1 : Int32) (σ : Sto) (z : Int32 × Sto) (h : fX4_stripBy v1 σ = some z) : AM yX4_stripBy cX4_stripBy 5 (some .int) 6 126 [.ref 17, .int v1] σ (some (.int z.1)) z.2 := AM.int rfl (Nat.le_of_ble_eq_true rfl) (fun X => wfX4_stripBy X v1 σ z h)
-- fX4_strip
def fX4_strip (v1 : Int32) (σ : Sto) : Option (Int32 × Sto) := (fX4_isIn v1 (0 : Int32) (9 : Int32) σ).bind fun q1 => if q1.1 = 0 then ((fX4_no (-1 : Int32) q1.2).bind fun q2 => some (q2.1, q2.2)) else ((fX4_stripBy v1 q1.2).bind fun q3 => some (q3.1, q3.2))
set_option maxRecDepth 100000 in
set_option maxHeartbeats 4000000 in
theorem wfX4_strip (X : Scr) (v1 : Int32) (σ : Sto) (z : Int32 × Sto) (h : fX4_strip v1 σ = some z) : Rt X RX4 cX4_strip 2 (rmA 7 150) .ireturn 0 [(0, .ref 17), (1, .int v1)] [] σ (some (.int z.1)) z.2 := by
  unfold fX4_strip at h
  refine Rt.iload_n 1 dX4_strip_0 rfl ?_
  refine Rt.iconst 0 dX4_strip_1 (by decide) ?_
  refine Rt.bipush 9 dX4_strip_2 (by decide) ?_
  obtain ⟨q1, e1, h⟩ := bnd h
  refine Rt.cS (mfX4_isIn v1 (0 : Int32) (9 : Int32) _ q1 e1) lkX4_71 rfl ⟨Nat.le_of_ble_eq_true rfl, Nat.le_of_ble_eq_true rfl⟩ (Nat.le_of_ble_eq_true rfl) rfl dX4_strip_4 ?_
  refine Rt.if_eq 18 dX4_strip_7 (by decide) (fun c1 => ?_) (fun c1 => ?_)
  · replace h := (if_pos c1).symm.trans h
    refine Rt.aload_n 0 dX4_strip_18 rfl ?_
    refine Rt.iconst (-1) dX4_strip_19 (by decide) ?_
    obtain ⟨q2, e2, h⟩ := bnd h
    refine Rt.cV (mfX4_no (-1 : Int32) _ q2 e2) lkX4_60 ly17 rfl rfl rfl ⟨Nat.le_of_ble_eq_true rfl, Nat.le_of_ble_eq_true rfl⟩ (Nat.le_of_ble_eq_true rfl) rfl dX4_strip_20 ?_
    obtain rfl := Option.some.inj h
    exact Rt.ret (v := some (.int q2.1)) dX4_strip_23 rfl rfl rfl
  · replace h := (if_neg c1).symm.trans h
    refine Rt.aload_n 0 dX4_strip_10 rfl ?_
    refine Rt.iload_n 1 dX4_strip_11 rfl ?_
    obtain ⟨q3, e3, h⟩ := bnd h
    refine Rt.cV (mfX4_stripBy v1 _ q3 e3) lkX4_225 ly17 rfl rfl rfl ⟨Nat.le_of_ble_eq_true rfl, Nat.le_of_ble_eq_true rfl⟩ (Nat.le_of_ble_eq_true rfl) rfl dX4_strip_12 ?_
    refine Rt.goto 23 dX4_strip_15 (by decide) ?_
    obtain rfl := Option.some.inj h
    exact Rt.ret (v := some (.int q3.1)) dX4_strip_23 rfl rfl rfl
set_option maxRecDepth 100000 in
set_option maxHeartbeats 4000000 in
theorem mfX4_strip (v1 : Int32) (σ : Sto) (z : Int32 × Sto) (h : fX4_strip v1 σ = some z) : AM yX4_strip cX4_strip 2 (some .int) 7 150 [.ref 17, .int v1] σ (some (.int z.1)) z.2 := AM.int rfl (Nat.le_of_ble_eq_true rfl) (fun X => wfX4_strip X v1 σ z h)
-- fX4_bestStrip
def fX4_bestStrip_b40 (k8 : Int32 → Int32 → Int32 → Sto → Option (Int32 × Sto)) (v1 : Int32) (v2 : Int32) (v3 : Int32) (σ : Sto) : Option (Int32 × Sto) := k8 v1 v2 (v3 + (1 : Int32)) σ
set_option maxRecDepth 100000 in
set_option maxHeartbeats 4000000 in
theorem wfX4_bestStrip_b40 (X : Scr) (k8 : Int32 → Int32 → Int32 → Sto → Option (Int32 × Sto)) (hk8 : ∀ (v1 : Int32) (v2 : Int32) (v3 : Int32) (σ : Sto) (z : Int32 × Sto), k8 v1 v2 v3 σ = some z → Rt X RX4 cX4_bestStrip 5 (rmA 7 150) .ireturn 8 [(0, .ref 17), (1, .int v1), (2, .int v2), (3, .int v3)] [] σ (some (.int z.1)) z.2) (v1 : Int32) (v2 : Int32) (v3 : Int32) (σ : Sto) (z : Int32 × Sto) (h : fX4_bestStrip_b40 k8 v1 v2 v3 σ = some z) : Rt X RX4 cX4_bestStrip 5 (rmA 7 150) .ireturn 40 [(0, .ref 17), (1, .int v1), (2, .int v2), (3, .int v3)] [] σ (some (.int z.1)) z.2 := by
  unfold fX4_bestStrip_b40 at h
  refine Rt.iinc [(3, _), (0, _), (1, _), (2, _)] (v3 + (1 : Int32)) 3 dX4_bestStrip_40 rfl rfl (by decide) rfl ?_
  refine Rt.goto 8 dX4_bestStrip_43 (by decide) ?_
  refine Rt.pick [1, 2, 3, 0] rfl ?_
  exact hk8 v1 v2 (v3 + (1 : Int32)) _ z h
def fX4_bestStrip_l8 : Nat → Int32 → Int32 → Int32 → Sto → Option (Int32 × Sto)
  | 0, _, _, _, _ => none
  | n + 1, v1, v2, v3, σ => if (10 : Int32) ≤ v3 then (some (v1, σ)) else ((fX4_stripBy v3 σ).bind fun q1 => (fX4_orElse q1.1 (99 : Int32) q1.2).bind fun q2 => if q2.1 < v2 then (fX4_bestStrip_b40 (fun a0 a1 a2 s => fX4_bestStrip_l8 n a0 a1 a2 s) v3 q2.1 v3 q2.2) else (fX4_bestStrip_b40 (fun a0 a1 a2 s => fX4_bestStrip_l8 n a0 a1 a2 s) v1 v2 v3 q2.2))
set_option maxRecDepth 100000 in
set_option maxHeartbeats 4000000 in
theorem wfX4_bestStrip_l8 (X : Scr) : ∀ (n : Nat) (v1 : Int32) (v2 : Int32) (v3 : Int32) (σ : Sto) (z : Int32 × Sto), fX4_bestStrip_l8 n v1 v2 v3 σ = some z → Rt X RX4 cX4_bestStrip 5 (rmA 7 150) .ireturn 8 [(0, .ref 17), (1, .int v1), (2, .int v2), (3, .int v3)] [] σ (some (.int z.1)) z.2 := by
  intro n
  induction n with
  | zero =>
    intro v1 v2 v3 σ z h
    rw [fX4_bestStrip_l8] at h
    cases h
  | succ n ih =>
    intro v1 v2 v3 σ z h
    rw [fX4_bestStrip_l8] at h
    refine Rt.iload_n 3 dX4_bestStrip_8 rfl ?_
    refine Rt.bipush 10 dX4_bestStrip_9 (by decide) ?_
    refine Rt.icmp_ge 46 dX4_bestStrip_11 (by decide) (fun c1 => ?_) (fun c1 => ?_)
    · replace h := (if_pos c1).symm.trans h
      refine Rt.iload_n 1 dX4_bestStrip_46 rfl ?_
      obtain rfl := Option.some.inj h
      exact Rt.ret (v := some (.int v1)) dX4_bestStrip_47 rfl rfl rfl
    · replace h := (if_neg c1).symm.trans h
      refine Rt.aload_n 0 dX4_bestStrip_14 rfl ?_
      refine Rt.iload_n 3 dX4_bestStrip_15 rfl ?_
      obtain ⟨q1, e1, h⟩ := bnd h
      refine Rt.cV (mfX4_stripBy v3 _ q1 e1) lkX4_225 ly17 rfl rfl rfl ⟨Nat.le_of_ble_eq_true rfl, Nat.le_of_ble_eq_true rfl⟩ (Nat.le_of_ble_eq_true rfl) rfl dX4_bestStrip_16 ?_
      refine Rt.bipush 99 dX4_bestStrip_19 (by decide) ?_
      obtain ⟨q2, e2, h⟩ := bnd h
      refine Rt.cS (mfX4_orElse q1.1 (99 : Int32) _ q2 e2) lkX4_188 rfl ⟨Nat.le_of_ble_eq_true rfl, Nat.le_of_ble_eq_true rfl⟩ (Nat.le_of_ble_eq_true rfl) rfl dX4_bestStrip_21 ?_
      refine Rt.istore [(4, _), (0, _), (1, _), (2, _), (3, _)] dX4_bestStrip_24 (by decide) rfl ?_
      refine Rt.iload 0 dX4_bestStrip_26 rfl ?_
      refine Rt.iload_n 3 dX4_bestStrip_28 rfl ?_
      refine Rt.icmp_lt 35 dX4_bestStrip_29 (by decide) (fun c2 => ?_) (fun c2 => ?_)
      · replace h := (if_pos c2).symm.trans h
        refine Rt.iload_n 4 dX4_bestStrip_35 rfl ?_
        refine Rt.istore_n [(1, _), (4, _), (0, _), (2, _), (3, _)] dX4_bestStrip_36 (by decide) rfl ?_
        refine Rt.iload 1 dX4_bestStrip_37 rfl ?_
        refine Rt.istore_n [(2, _), (1, _), (4, _), (0, _), (3, _)] dX4_bestStrip_39 (by decide) rfl ?_
        refine Rt.pick [3, 1, 0, 4] rfl ?_
        exact wfX4_bestStrip_b40 X (fun a0 a1 a2 s => fX4_bestStrip_l8 n a0 a1 a2 s) ih v3 q2.1 v3 _ z h
      · replace h := (if_neg c2).symm.trans h
        refine Rt.goto 40 dX4_bestStrip_32 (by decide) ?_
        refine Rt.pick [1, 2, 3, 4] rfl ?_
        exact wfX4_bestStrip_b40 X (fun a0 a1 a2 s => fX4_bestStrip_l8 n a0 a1 a2 s) ih v1 v2 v3 _ z h
def fX4_bestStrip (σ : Sto) : Option (Int32 × Sto) := fX4_bestStrip_l8 300 (-9 : Int32) (99 : Int32) (0 : Int32) σ
set_option maxRecDepth 100000 in
set_option maxHeartbeats 4000000 in
theorem wfX4_bestStrip (X : Scr) (σ : Sto) (z : Int32 × Sto) (h : fX4_bestStrip σ = some z) : Rt X RX4 cX4_bestStrip 5 (rmA 7 150) .ireturn 0 [(0, .ref 17)] [] σ (some (.int z.1)) z.2 := by
  unfold fX4_bestStrip at h
  refine Rt.bipush (-9) dX4_bestStrip_0 (by decide) ?_
  refine Rt.istore_n [(1, _), (0, _)] dX4_bestStrip_2 (by decide) rfl ?_
  refine Rt.bipush 99 dX4_bestStrip_3 (by decide) ?_
  refine Rt.istore_n [(2, _), (1, _), (0, _)] dX4_bestStrip_5 (by decide) rfl ?_
  refine Rt.iconst 0 dX4_bestStrip_6 (by decide) ?_
  refine Rt.istore_n [(3, _), (2, _), (1, _), (0, _)] dX4_bestStrip_7 (by decide) rfl ?_
  refine Rt.pick [3, 2, 1, 0] rfl ?_
  exact wfX4_bestStrip_l8 X 300 (-9 : Int32) (99 : Int32) (0 : Int32) _ z h
set_option maxRecDepth 100000 in
set_option maxHeartbeats 4000000 in
theorem mfX4_bestStrip (σ : Sto) (z : Int32 × Sto) (h : fX4_bestStrip σ = some z) : AM yX4_bestStrip cX4_bestStrip 5 (some .int) 7 150 [.ref 17] σ (some (.int z.1)) z.2 := AM.int rfl (Nat.le_of_ble_eq_true rfl) (fun X => wfX4_bestStrip X σ z h)
-- fX4_doesGo
def fX4_doesGo_b72 (s0 : Int32) (σ : Sto) : Option (Int32 × Sto) := (fX4_passesAll (1 : Int32) (0 : Int32) σ).bind fun q2 => some (s0, q2.2)
set_option maxRecDepth 100000 in
set_option maxHeartbeats 4000000 in
theorem wfX4_doesGo_b72 (X : Scr) (s0 : Int32) (σ : Sto) (z : Int32 × Sto) (h : fX4_doesGo_b72 s0 σ = some z) : Rt X RX4 cX4_doesGo 5 (rmA 6 126) .ireturn 72 [(0, .ref 17)] [.int s0] σ (some (.int z.1)) z.2 := by
  unfold fX4_doesGo_b72 at h
  refine Rt.istore [(4, _), (0, _)] dX4_doesGo_72 (by decide) rfl ?_
  refine Rt.aload_n 1 dX4_doesGo_74 rfl ?_
  refine Rt.iconst 1 dX4_doesGo_75 (by decide) ?_
  refine Rt.iconst 0 dX4_doesGo_76 (by decide) ?_
  obtain ⟨q2, e2, h⟩ := bnd h
  refine Rt.cV0 (mfX4_passesAll (1 : Int32) (0 : Int32) _ q2 e2) lkX4_121 ly17 rfl rfl rfl ⟨Nat.le_of_ble_eq_true rfl, Nat.le_of_ble_eq_true rfl⟩ (Nat.le_of_ble_eq_true rfl) rfl dX4_doesGo_77 ?_
  refine Rt.iload 0 dX4_doesGo_80 rfl ?_
  obtain rfl := Option.some.inj h
  exact Rt.ret (v := some (.int s0)) dX4_doesGo_82 rfl rfl rfl
def fX4_doesGo_l31 : Nat → Int32 → Int32 → Int32 → Int32 → Sto → Option (Int32 × Sto)
  | 0, _, _, _, _, _ => none
  | n + 1, v1, v2, v3, v4, σ => if v2 ≤ v4 then (if (σ 17 4) = (24 : Int32) then (fX4_doesGo_b72 (1 : Int32) σ) else (fX4_doesGo_b72 (0 : Int32) σ)) else (if ¬ v3 = 0 then ((fX4_strokes (irm (v1 / v3) (24 : Int32)) σ).bind fun q3 => fX4_doesGo_l31 n v1 v2 (v3 / (24 : Int32)) (v4 + (1 : Int32)) q3.2) else none)
set_option maxRecDepth 100000 in
set_option maxHeartbeats 4000000 in
theorem wfX4_doesGo_l31 (X : Scr) : ∀ (n : Nat) (v1 : Int32) (v2 : Int32) (v3 : Int32) (v4 : Int32) (σ : Sto) (z : Int32 × Sto), fX4_doesGo_l31 n v1 v2 v3 v4 σ = some z → Rt X RX4 cX4_doesGo 5 (rmA 6 126) .ireturn 31 [(0, .ref 17), (1, .int v1), (2, .int v2), (3, .int v3), (4, .int v4)] [] σ (some (.int z.1)) z.2 := by
  intro n
  induction n with
  | zero =>
    intro v1 v2 v3 v4 σ z h
    rw [fX4_doesGo_l31] at h
    cases h
  | succ n ih =>
    intro v1 v2 v3 v4 σ z h
    rw [fX4_doesGo_l31] at h
    refine Rt.iload 4 dX4_doesGo_31 rfl ?_
    refine Rt.iload_n 2 dX4_doesGo_33 rfl ?_
    refine Rt.icmp_ge 58 dX4_doesGo_34 (by decide) (fun c2 => ?_) (fun c2 => ?_)
    · replace h := (if_pos c2).symm.trans h
      refine Rt.aload_n 0 dX4_doesGo_58 rfl ?_
      refine gfX4_101 ly17 dX4_doesGo_59 ?_
      refine Rt.bipush 24 dX4_doesGo_62 (by decide) ?_
      refine Rt.icmp_ne 71 dX4_doesGo_64 (by decide) (fun c3 => ?_) (fun c3 => ?_)
      · replace h := (if_neg c3).symm.trans h
        refine Rt.iconst 0 dX4_doesGo_71 (by decide) ?_
        refine Rt.pick [0] rfl ?_
        exact wfX4_doesGo_b72 X (0 : Int32) _ z h
      · replace h := (if_pos c3).symm.trans h
        refine Rt.iconst 1 dX4_doesGo_67 (by decide) ?_
        refine Rt.goto 72 dX4_doesGo_68 (by decide) ?_
        refine Rt.pick [0] rfl ?_
        exact wfX4_doesGo_b72 X (1 : Int32) _ z h
    · replace h := (if_neg c2).symm.trans h
      refine Rt.aload_n 0 dX4_doesGo_37 rfl ?_
      refine Rt.iload_n 1 dX4_doesGo_38 rfl ?_
      refine Rt.iload_n 3 dX4_doesGo_39 rfl ?_
      obtain ⟨g4, h⟩ := gd h
      refine Rt.idiv dX4_doesGo_40 g4 ?_
      refine Rt.bipush 24 dX4_doesGo_41 (by decide) ?_
      refine Rt.rem dX4_doesGo_43 (by decide) ?_
      obtain ⟨q3, e3, h⟩ := bnd h
      refine Rt.cV0 (mfX4_strokes (irm (v1 / v3) (24 : Int32)) _ q3 e3) lkX4_113 ly17 rfl rfl rfl ⟨Nat.le_of_ble_eq_true rfl, Nat.le_of_ble_eq_true rfl⟩ (Nat.le_of_ble_eq_true rfl) rfl dX4_doesGo_44 ?_
      refine Rt.iload_n 3 dX4_doesGo_47 rfl ?_
      refine Rt.bipush 24 dX4_doesGo_48 (by decide) ?_
      refine Rt.idiv dX4_doesGo_50 (by decide) ?_
      refine Rt.istore_n [(3, _), (0, _), (1, _), (2, _), (4, _)] dX4_doesGo_51 (by decide) rfl ?_
      refine Rt.iinc [(4, _), (3, _), (0, _), (1, _), (2, _)] (v4 + (1 : Int32)) 4 dX4_doesGo_52 rfl rfl (by decide) rfl ?_
      refine Rt.goto 31 dX4_doesGo_55 (by decide) ?_
      refine Rt.pick [2, 3, 4, 1, 0] rfl ?_
      exact ih v1 v2 (v3 / (24 : Int32)) (v4 + (1 : Int32)) _ z h
def fX4_doesGo_l11 : Nat → Int32 → Int32 → Int32 → Int32 → Sto → Option (Int32 × Sto)
  | 0, _, _, _, _, _ => none
  | n + 1, v1, v2, v3, v4, σ => if v2 ≤ v4 then (fX4_doesGo_l31 300 v1 v2 v3 (0 : Int32) σ) else (fX4_doesGo_l11 n v1 v2 (v3 * (24 : Int32)) (v4 + (1 : Int32)) σ)
set_option maxRecDepth 100000 in
set_option maxHeartbeats 4000000 in
theorem wfX4_doesGo_l11 (X : Scr) : ∀ (n : Nat) (v1 : Int32) (v2 : Int32) (v3 : Int32) (v4 : Int32) (σ : Sto) (z : Int32 × Sto), fX4_doesGo_l11 n v1 v2 v3 v4 σ = some z → Rt X RX4 cX4_doesGo 5 (rmA 6 126) .ireturn 11 [(0, .ref 17), (1, .int v1), (2, .int v2), (3, .int v3), (4, .int v4)] [] σ (some (.int z.1)) z.2 := by
  intro n
  induction n with
  | zero =>
    intro v1 v2 v3 v4 σ z h
    rw [fX4_doesGo_l11] at h
    cases h
  | succ n ih =>
    intro v1 v2 v3 v4 σ z h
    rw [fX4_doesGo_l11] at h
    refine Rt.iload 4 dX4_doesGo_11 rfl ?_
    refine Rt.iload_n 2 dX4_doesGo_13 rfl ?_
    refine Rt.icmp_ge 28 dX4_doesGo_14 (by decide) (fun c1 => ?_) (fun c1 => ?_)
    · replace h := (if_pos c1).symm.trans h
      refine Rt.iconst 0 dX4_doesGo_28 (by decide) ?_
      refine Rt.istore [(4, _), (0, _), (1, _), (2, _), (3, _)] dX4_doesGo_29 (by decide) rfl ?_
      refine Rt.pick [1, 2, 3, 4, 0] rfl ?_
      exact wfX4_doesGo_l31 X 300 v1 v2 v3 (0 : Int32) _ z h
    · replace h := (if_neg c1).symm.trans h
      refine Rt.iload_n 3 dX4_doesGo_17 rfl ?_
      refine Rt.bipush 24 dX4_doesGo_18 (by decide) ?_
      refine Rt.imul dX4_doesGo_20 ?_
      refine Rt.istore_n [(3, _), (0, _), (1, _), (2, _), (4, _)] dX4_doesGo_21 (by decide) rfl ?_
      refine Rt.iinc [(4, _), (3, _), (0, _), (1, _), (2, _)] (v4 + (1 : Int32)) 4 dX4_doesGo_22 rfl rfl (by decide) rfl ?_
      refine Rt.goto 11 dX4_doesGo_25 (by decide) ?_
      refine Rt.pick [2, 3, 4, 1, 0] rfl ?_
      exact ih v1 v2 (v3 * (24 : Int32)) (v4 + (1 : Int32)) _ z h
def fX4_doesGo_e (v1 : Int32) (v2 : Int32) (σ : Sto) : Option (Int32 × Sto) := (fX4_passesAll (1 : Int32) (1 : Int32) σ).bind fun q1 => fX4_doesGo_l11 300 v1 v2 (1 : Int32) (1 : Int32) q1.2
set_option maxRecDepth 100000 in
set_option maxHeartbeats 4000000 in
theorem wfX4_doesGo_e (X : Scr) (v1 : Int32) (v2 : Int32) (σ : Sto) (z : Int32 × Sto) (h : fX4_doesGo_e v1 v2 σ = some z) : Rt X RX4 cX4_doesGo 5 (rmA 6 126) .ireturn 0 [(0, .ref 17), (1, .int v1), (2, .int v2)] [] σ (some (.int z.1)) z.2 := by
  unfold fX4_doesGo_e at h
  refine Rt.aload_n 0 dX4_doesGo_0 rfl ?_
  refine Rt.iconst 1 dX4_doesGo_1 (by decide) ?_
  refine Rt.iconst 1 dX4_doesGo_2 (by decide) ?_
  obtain ⟨q1, e1, h⟩ := bnd h
  refine Rt.cV0 (mfX4_passesAll (1 : Int32) (1 : Int32) _ q1 e1) lkX4_121 ly17 rfl rfl rfl ⟨Nat.le_of_ble_eq_true rfl, Nat.le_of_ble_eq_true rfl⟩ (Nat.le_of_ble_eq_true rfl) rfl dX4_doesGo_3 ?_
  refine Rt.iconst 1 dX4_doesGo_6 (by decide) ?_
  refine Rt.istore_n [(3, _), (0, _), (1, _), (2, _)] dX4_doesGo_7 (by decide) rfl ?_
  refine Rt.iconst 1 dX4_doesGo_8 (by decide) ?_
  refine Rt.istore [(4, _), (3, _), (0, _), (1, _), (2, _)] dX4_doesGo_9 (by decide) rfl ?_
  refine Rt.pick [2, 3, 4, 1, 0] rfl ?_
  exact wfX4_doesGo_l11 X 300 v1 v2 (1 : Int32) (1 : Int32) _ z h
def fX4_doesGo (v1 : Int32) (v2 : Int32) (σ : Sto) : Option (Int32 × Sto) := (fX4_doesGo_e v1 v2 σ).bind chkZ
set_option maxRecDepth 100000 in
set_option maxHeartbeats 4000000 in
theorem mfX4_doesGo (v1 : Int32) (v2 : Int32) (σ : Sto) (z : Int32 × Sto) (h : fX4_doesGo v1 v2 σ = some z) : AM yX4_doesGo cX4_doesGo 5 (some .boolean) 6 126 [.ref 17, .int v1, .int v2] σ (some (.int z.1)) z.2 := by
  obtain ⟨hz, h⟩ := chkZ_ok h
  exact AM.bool hz rfl (Nat.le_of_ble_eq_true rfl) (fun X => wfX4_doesGo_e X v1 v2 σ z h)
-- fX4_fewest
def fX4_fewest_l56 (k40 : Int32 → Int32 → Int32 → Sto → Option (Int32 × Sto)) : Nat → Int32 → Int32 → Int32 → Int32 → Int32 → Sto → Option (Int32 × Sto)
  | 0, _, _, _, _, _, _ => none
  | n + 1, v1, v2, v3, v4, v5, σ => if v2 ≤ v5 then (k40 v1 v2 (v3 + (1 : Int32)) σ) else ((fX4_doesGo v5 v3 σ).bind fun q2 => if q2.1 = 0 then (fX4_fewest_l56 k40 n v1 v2 v3 v4 (v5 + (1 : Int32)) q2.2) else (if v1 = 0 then (some (v3, q2.2)) else (if ¬ v4 = 0 then (some ((v5 / v4), q2.2)) else none)))
set_option maxRecDepth 100000 in
set_option maxHeartbeats 4000000 in
theorem wfX4_fewest_l56 (X : Scr) (k40 : Int32 → Int32 → Int32 → Sto → Option (Int32 × Sto)) (hk40 : ∀ (v1 : Int32) (v2 : Int32) (v3 : Int32) (σ : Sto) (z : Int32 × Sto), k40 v1 v2 v3 σ = some z → Rt X RX4 cX4_fewest 6 (rmA 7 150) .ireturn 40 [(0, .ref 17), (1, .int v1), (2, .int v2), (3, .int v3)] [] σ (some (.int z.1)) z.2) : ∀ (n : Nat) (v1 : Int32) (v2 : Int32) (v3 : Int32) (v4 : Int32) (v5 : Int32) (σ : Sto) (z : Int32 × Sto), fX4_fewest_l56 k40 n v1 v2 v3 v4 v5 σ = some z → Rt X RX4 cX4_fewest 6 (rmA 7 150) .ireturn 56 [(0, .ref 17), (1, .int v1), (2, .int v2), (3, .int v3), (4, .int v4), (5, .int v5)] [] σ (some (.int z.1)) z.2 := by
  intro n
  induction n with
  | zero =>
    intro v1 v2 v3 v4 v5 σ z h
    rw [fX4_fewest_l56] at h
    cases h
  | succ n ih =>
    intro v1 v2 v3 v4 v5 σ z h
    rw [fX4_fewest_l56] at h
    refine Rt.iload 5 dX4_fewest_56 rfl ?_
    refine Rt.iload_n 2 dX4_fewest_58 rfl ?_
    refine Rt.icmp_ge 92 dX4_fewest_59 (by decide) (fun c4 => ?_) (fun c4 => ?_)
    · replace h := (if_pos c4).symm.trans h
      refine Rt.iinc [(3, _), (0, _), (1, _), (2, _), (4, _), (5, _)] (v3 + (1 : Int32)) 3 dX4_fewest_92 rfl rfl (by decide) rfl ?_
      refine Rt.goto 40 dX4_fewest_95 (by decide) ?_
      refine Rt.pick [1, 2, 3, 0] rfl ?_
      exact hk40 v1 v2 (v3 + (1 : Int32)) _ z h
    · replace h := (if_neg c4).symm.trans h
      refine Rt.aload_n 0 dX4_fewest_62 rfl ?_
      refine Rt.iload 5 dX4_fewest_63 rfl ?_
      refine Rt.iload_n 3 dX4_fewest_65 rfl ?_
      obtain ⟨q2, e2, h⟩ := bnd h
      refine Rt.cV (mfX4_doesGo v5 v3 _ q2 e2) lkX4_228 ly17 rfl rfl rfl ⟨Nat.le_of_ble_eq_true rfl, Nat.le_of_ble_eq_true rfl⟩ (Nat.le_of_ble_eq_true rfl) rfl dX4_fewest_66 ?_
      refine Rt.if_eq 86 dX4_fewest_69 (by decide) (fun c5 => ?_) (fun c5 => ?_)
      · replace h := (if_pos c5).symm.trans h
        refine Rt.iinc [(5, _), (0, _), (1, _), (2, _), (3, _), (4, _)] (v5 + (1 : Int32)) 5 dX4_fewest_86 rfl rfl (by decide) rfl ?_
        refine Rt.goto 56 dX4_fewest_89 (by decide) ?_
        refine Rt.pick [1, 2, 3, 4, 5, 0] rfl ?_
        exact ih v1 v2 v3 v4 (v5 + (1 : Int32)) _ z h
      · replace h := (if_neg c5).symm.trans h
        refine Rt.iload_n 1 dX4_fewest_72 rfl ?_
        refine Rt.if_ne 80 dX4_fewest_73 (by decide) (fun c6 => ?_) (fun c6 => ?_)
        · replace h := (if_neg c6).symm.trans h
          refine Rt.iload 5 dX4_fewest_80 rfl ?_
          refine Rt.iload 4 dX4_fewest_82 rfl ?_
          obtain ⟨g7, h⟩ := gd h
          refine Rt.idiv dX4_fewest_84 g7 ?_
          obtain rfl := Option.some.inj h
          exact Rt.ret (v := some (.int (v5 / v4))) dX4_fewest_85 rfl rfl rfl
        · replace h := (if_pos c6).symm.trans h
          refine Rt.iload_n 3 dX4_fewest_76 rfl ?_
          refine Rt.goto 85 dX4_fewest_77 (by decide) ?_
          obtain rfl := Option.some.inj h
          exact Rt.ret (v := some (.int v3)) dX4_fewest_85 rfl rfl rfl
def fX4_fewest_l40 : Nat → Int32 → Int32 → Int32 → Sto → Option (Int32 × Sto)
  | 0, _, _, _, _ => none
  | n + 1, v1, v2, v3, σ => if (4 : Int32) ≤ v3 then (some ((-9 : Int32), σ)) else (fX4_fewest_l56 (fun a0 a1 a2 s => fX4_fewest_l40 n a0 a1 a2 s) 14000 v1 (v2 * (24 : Int32)) v3 v2 (0 : Int32) σ)
set_option maxRecDepth 100000 in
set_option maxHeartbeats 4000000 in
theorem wfX4_fewest_l40 (X : Scr) : ∀ (n : Nat) (v1 : Int32) (v2 : Int32) (v3 : Int32) (σ : Sto) (z : Int32 × Sto), fX4_fewest_l40 n v1 v2 v3 σ = some z → Rt X RX4 cX4_fewest 6 (rmA 7 150) .ireturn 40 [(0, .ref 17), (1, .int v1), (2, .int v2), (3, .int v3)] [] σ (some (.int z.1)) z.2 := by
  intro n
  induction n with
  | zero =>
    intro v1 v2 v3 σ z h
    rw [fX4_fewest_l40] at h
    cases h
  | succ n ih =>
    intro v1 v2 v3 σ z h
    rw [fX4_fewest_l40] at h
    refine Rt.iload_n 3 dX4_fewest_40 rfl ?_
    refine Rt.iconst 4 dX4_fewest_41 (by decide) ?_
    refine Rt.icmp_ge 98 dX4_fewest_42 (by decide) (fun c3 => ?_) (fun c3 => ?_)
    · replace h := (if_pos c3).symm.trans h
      refine Rt.bipush (-9) dX4_fewest_98 (by decide) ?_
      obtain rfl := Option.some.inj h
      exact Rt.ret (v := some (.int (-9 : Int32))) dX4_fewest_100 rfl rfl rfl
    · replace h := (if_neg c3).symm.trans h
      refine Rt.iload_n 2 dX4_fewest_45 rfl ?_
      refine Rt.istore [(4, _), (0, _), (1, _), (2, _), (3, _)] dX4_fewest_46 (by decide) rfl ?_
      refine Rt.iload_n 3 dX4_fewest_48 rfl ?_
      refine Rt.bipush 24 dX4_fewest_49 (by decide) ?_
      refine Rt.imul dX4_fewest_51 ?_
      refine Rt.istore_n [(2, _), (4, _), (0, _), (1, _), (3, _)] dX4_fewest_52 (by decide) rfl ?_
      refine Rt.iconst 0 dX4_fewest_53 (by decide) ?_
      refine Rt.istore [(5, _), (2, _), (4, _), (0, _), (1, _), (3, _)] dX4_fewest_54 (by decide) rfl ?_
      refine Rt.pick [3, 4, 1, 5, 2, 0] rfl ?_
      exact wfX4_fewest_l56 X (fun a0 a1 a2 s => fX4_fewest_l40 n a0 a1 a2 s) ih 14000 v1 (v2 * (24 : Int32)) v3 v2 (0 : Int32) _ z h
def fX4_fewest (v1 : Int32) (σ : Sto) : Option (Int32 × Sto) := (fX4_isIn v1 (0 : Int32) (1 : Int32) σ).bind fun q1 => if q1.1 = 0 then ((fX4_no (-2 : Int32) q1.2).bind fun q3 => some (q3.1, q3.2)) else (if (q1.2 17 4) = (24 : Int32) then (if v1 = 0 then (some ((0 : Int32), q1.2)) else (some ((-9 : Int32), q1.2))) else (fX4_fewest_l40 300 v1 (1 : Int32) (1 : Int32) q1.2))
set_option maxRecDepth 100000 in
set_option maxHeartbeats 4000000 in
theorem wfX4_fewest (X : Scr) (v1 : Int32) (σ : Sto) (z : Int32 × Sto) (h : fX4_fewest v1 σ = some z) : Rt X RX4 cX4_fewest 6 (rmA 7 150) .ireturn 0 [(0, .ref 17), (1, .int v1)] [] σ (some (.int z.1)) z.2 := by
  unfold fX4_fewest at h
  refine Rt.iload_n 1 dX4_fewest_0 rfl ?_
  refine Rt.iconst 0 dX4_fewest_1 (by decide) ?_
  refine Rt.iconst 1 dX4_fewest_2 (by decide) ?_
  obtain ⟨q1, e1, h⟩ := bnd h
  refine Rt.cS (mfX4_isIn v1 (0 : Int32) (1 : Int32) _ q1 e1) lkX4_71 rfl ⟨Nat.le_of_ble_eq_true rfl, Nat.le_of_ble_eq_true rfl⟩ (Nat.le_of_ble_eq_true rfl) rfl dX4_fewest_3 ?_
  refine Rt.if_ne 16 dX4_fewest_6 (by decide) (fun c1 => ?_) (fun c1 => ?_)
  · replace h := (if_neg c1).symm.trans h
    refine Rt.aload_n 0 dX4_fewest_16 rfl ?_
    refine gfX4_101 ly17 dX4_fewest_17 ?_
    refine Rt.bipush 24 dX4_fewest_20 (by decide) ?_
    refine Rt.icmp_ne 36 dX4_fewest_22 (by decide) (fun c2 => ?_) (fun c2 => ?_)
    · replace h := (if_neg c2).symm.trans h
      refine Rt.iconst 1 dX4_fewest_36 (by decide) ?_
      refine Rt.istore_n [(2, _), (0, _), (1, _)] dX4_fewest_37 (by decide) rfl ?_
      refine Rt.iconst 1 dX4_fewest_38 (by decide) ?_
      refine Rt.istore_n [(3, _), (2, _), (0, _), (1, _)] dX4_fewest_39 (by decide) rfl ?_
      refine Rt.pick [2, 3, 1, 0] rfl ?_
      exact wfX4_fewest_l40 X 300 v1 (1 : Int32) (1 : Int32) _ z h
    · replace h := (if_pos c2).symm.trans h
      refine Rt.iload_n 1 dX4_fewest_25 rfl ?_
      refine Rt.if_ne 33 dX4_fewest_26 (by decide) (fun c8 => ?_) (fun c8 => ?_)
      · replace h := (if_neg c8).symm.trans h
        refine Rt.bipush (-9) dX4_fewest_33 (by decide) ?_
        obtain rfl := Option.some.inj h
        exact Rt.ret (v := some (.int (-9 : Int32))) dX4_fewest_35 rfl rfl rfl
      · replace h := (if_pos c8).symm.trans h
        refine Rt.iconst 0 dX4_fewest_29 (by decide) ?_
        refine Rt.goto 35 dX4_fewest_30 (by decide) ?_
        obtain rfl := Option.some.inj h
        exact Rt.ret (v := some (.int (0 : Int32))) dX4_fewest_35 rfl rfl rfl
  · replace h := (if_pos c1).symm.trans h
    refine Rt.aload_n 0 dX4_fewest_9 rfl ?_
    refine Rt.bipush (-2) dX4_fewest_10 (by decide) ?_
    obtain ⟨q3, e3, h⟩ := bnd h
    refine Rt.cV (mfX4_no (-2 : Int32) _ q3 e3) lkX4_60 ly17 rfl rfl rfl ⟨Nat.le_of_ble_eq_true rfl, Nat.le_of_ble_eq_true rfl⟩ (Nat.le_of_ble_eq_true rfl) rfl dX4_fewest_12 ?_
    obtain rfl := Option.some.inj h
    exact Rt.ret (v := some (.int q3.1)) dX4_fewest_15 rfl rfl rfl
set_option maxRecDepth 100000 in
set_option maxHeartbeats 4000000 in
theorem mfX4_fewest (v1 : Int32) (σ : Sto) (z : Int32 × Sto) (h : fX4_fewest v1 σ = some z) : AM yX4_fewest cX4_fewest 6 (some .int) 7 150 [.ref 17, .int v1] σ (some (.int z.1)) z.2 := AM.int rfl (Nat.le_of_ble_eq_true rfl) (fun X => wfX4_fewest X v1 σ z h)
-- fX4_soreAround
def fX4_soreAround_b30 (k4 : Int32 → Int32 → Int32 → Sto → Option (Int32 × Sto)) (v1 : Int32) (v3 : Int32) (s0 : Int32) (s1 : Int32) (σ : Sto) : Option (Int32 × Sto) := k4 v1 (s1 + s0) (v3 + (1 : Int32)) σ
set_option maxRecDepth 100000 in
set_option maxHeartbeats 4000000 in
theorem wfX4_soreAround_b30 (X : Scr) (k4 : Int32 → Int32 → Int32 → Sto → Option (Int32 × Sto)) (hk4 : ∀ (v1 : Int32) (v2 : Int32) (v3 : Int32) (σ : Sto) (z : Int32 × Sto), k4 v1 v2 v3 σ = some z → Rt X RX4 cX4_soreAround 4 (rmA 2 42) .ireturn 4 [(0, .ref 17), (1, .int v1), (2, .int v2), (3, .int v3)] [] σ (some (.int z.1)) z.2) (v1 : Int32) (v3 : Int32) (s0 : Int32) (s1 : Int32) (σ : Sto) (z : Int32 × Sto) (h : fX4_soreAround_b30 k4 v1 v3 s0 s1 σ = some z) : Rt X RX4 cX4_soreAround 4 (rmA 2 42) .ireturn 30 [(0, .ref 17), (1, .int v1), (3, .int v3)] [.int s0, .int s1] σ (some (.int z.1)) z.2 := by
  unfold fX4_soreAround_b30 at h
  refine Rt.iadd dX4_soreAround_30 ?_
  refine Rt.istore_n [(2, _), (0, _), (1, _), (3, _)] dX4_soreAround_31 (by decide) rfl ?_
  refine Rt.iinc [(3, _), (2, _), (0, _), (1, _)] (v3 + (1 : Int32)) 3 dX4_soreAround_32 rfl rfl (by decide) rfl ?_
  refine Rt.goto 4 dX4_soreAround_35 (by decide) ?_
  refine Rt.pick [2, 3, 1, 0] rfl ?_
  exact hk4 v1 (s1 + s0) (v3 + (1 : Int32)) _ z h
def fX4_soreAround_l4 : Nat → Int32 → Int32 → Int32 → Sto → Option (Int32 × Sto)
  | 0, _, _, _, _ => none
  | n + 1, v1, v2, v3, σ => if (24 : Int32) ≤ v3 then (some (v2, σ)) else ((fX4_farOf v3 v1 σ).bind fun q1 => if q1.1 = (1 : Int32) then (if inb v3 24 = true then (fX4_soreAround_b30 (fun a0 a1 a2 s => fX4_soreAround_l4 n a0 a1 a2 s) v1 v3 (q1.2 19 (v3).toNatClampNeg) v2 q1.2) else none) else (fX4_soreAround_b30 (fun a0 a1 a2 s => fX4_soreAround_l4 n a0 a1 a2 s) v1 v3 (0 : Int32) v2 q1.2))
set_option maxRecDepth 100000 in
set_option maxHeartbeats 4000000 in
theorem wfX4_soreAround_l4 (X : Scr) : ∀ (n : Nat) (v1 : Int32) (v2 : Int32) (v3 : Int32) (σ : Sto) (z : Int32 × Sto), fX4_soreAround_l4 n v1 v2 v3 σ = some z → Rt X RX4 cX4_soreAround 4 (rmA 2 42) .ireturn 4 [(0, .ref 17), (1, .int v1), (2, .int v2), (3, .int v3)] [] σ (some (.int z.1)) z.2 := by
  intro n
  induction n with
  | zero =>
    intro v1 v2 v3 σ z h
    rw [fX4_soreAround_l4] at h
    cases h
  | succ n ih =>
    intro v1 v2 v3 σ z h
    rw [fX4_soreAround_l4] at h
    refine Rt.iload_n 3 dX4_soreAround_4 rfl ?_
    refine Rt.bipush 24 dX4_soreAround_5 (by decide) ?_
    refine Rt.icmp_ge 38 dX4_soreAround_7 (by decide) (fun c1 => ?_) (fun c1 => ?_)
    · replace h := (if_pos c1).symm.trans h
      refine Rt.iload_n 2 dX4_soreAround_38 rfl ?_
      obtain rfl := Option.some.inj h
      exact Rt.ret (v := some (.int v2)) dX4_soreAround_39 rfl rfl rfl
    · replace h := (if_neg c1).symm.trans h
      refine Rt.iload_n 2 dX4_soreAround_10 rfl ?_
      refine Rt.iload_n 3 dX4_soreAround_11 rfl ?_
      refine Rt.iload_n 1 dX4_soreAround_12 rfl ?_
      obtain ⟨q1, e1, h⟩ := bnd h
      refine Rt.cS (mfX4_farOf v3 v1 _ q1 e1) lkX4_167 rfl ⟨Nat.le_of_ble_eq_true rfl, Nat.le_of_ble_eq_true rfl⟩ (Nat.le_of_ble_eq_true rfl) rfl dX4_soreAround_13 ?_
      refine Rt.iconst 1 dX4_soreAround_16 (by decide) ?_
      refine Rt.icmp_ne 29 dX4_soreAround_17 (by decide) (fun c2 => ?_) (fun c2 => ?_)
      · replace h := (if_neg c2).symm.trans h
        refine Rt.iconst 0 dX4_soreAround_29 (by decide) ?_
        refine Rt.pick [0, 1, 3] rfl ?_
        exact wfX4_soreAround_b30 X (fun a0 a1 a2 s => fX4_soreAround_l4 n a0 a1 a2 s) ih v1 v3 (0 : Int32) v2 _ z h
      · replace h := (if_pos c2).symm.trans h
        refine Rt.aload_n 0 dX4_soreAround_20 rfl ?_
        refine gfX4_13 ly17 dX4_soreAround_21 ?_
        refine Rt.iload_n 3 dX4_soreAround_24 rfl ?_
        obtain ⟨g3, h⟩ := gd h
        refine Rt.iald ly19 g3 dX4_soreAround_25 ?_
        refine Rt.goto 30 dX4_soreAround_26 (by decide) ?_
        refine Rt.pick [0, 1, 3] rfl ?_
        exact wfX4_soreAround_b30 X (fun a0 a1 a2 s => fX4_soreAround_l4 n a0 a1 a2 s) ih v1 v3 (q1.2 19 (v3).toNatClampNeg) v2 _ z h
def fX4_soreAround (v1 : Int32) (σ : Sto) : Option (Int32 × Sto) := fX4_soreAround_l4 300 v1 (0 : Int32) (0 : Int32) σ
set_option maxRecDepth 100000 in
set_option maxHeartbeats 4000000 in
theorem wfX4_soreAround (X : Scr) (v1 : Int32) (σ : Sto) (z : Int32 × Sto) (h : fX4_soreAround v1 σ = some z) : Rt X RX4 cX4_soreAround 4 (rmA 2 42) .ireturn 0 [(0, .ref 17), (1, .int v1)] [] σ (some (.int z.1)) z.2 := by
  unfold fX4_soreAround at h
  refine Rt.iconst 0 dX4_soreAround_0 (by decide) ?_
  refine Rt.istore_n [(2, _), (0, _), (1, _)] dX4_soreAround_1 (by decide) rfl ?_
  refine Rt.iconst 0 dX4_soreAround_2 (by decide) ?_
  refine Rt.istore_n [(3, _), (2, _), (0, _), (1, _)] dX4_soreAround_3 (by decide) rfl ?_
  refine Rt.pick [2, 3, 1, 0] rfl ?_
  exact wfX4_soreAround_l4 X 300 v1 (0 : Int32) (0 : Int32) _ z h
set_option maxRecDepth 100000 in
set_option maxHeartbeats 4000000 in
theorem mfX4_soreAround (v1 : Int32) (σ : Sto) (z : Int32 × Sto) (h : fX4_soreAround v1 σ = some z) : AM yX4_soreAround cX4_soreAround 4 (some .int) 2 42 [.ref 17, .int v1] σ (some (.int z.1)) z.2 := AM.int rfl (Nat.le_of_ble_eq_true rfl) (fun X => wfX4_soreAround X v1 σ z h)
-- fX4_bears
def fX4_bears_b19 (σ : Sto) : Option (Int32 × Sto) := (fX4_no (-1 : Int32) σ).bind fun q2 => some (q2.1, q2.2)
set_option maxRecDepth 100000 in
set_option maxHeartbeats 4000000 in
theorem wfX4_bears_b19 (X : Scr) (σ : Sto) (z : Int32 × Sto) (h : fX4_bears_b19 σ = some z) : Rt X RX4 cX4_bears 4 (rmA 3 65) .ireturn 19 [(0, .ref 17)] [] σ (some (.int z.1)) z.2 := by
  unfold fX4_bears_b19 at h
  refine Rt.aload_n 0 dX4_bears_19 rfl ?_
  refine Rt.iconst (-1) dX4_bears_20 (by decide) ?_
  obtain ⟨q2, e2, h⟩ := bnd h
  refine Rt.cV (mfX4_no (-1 : Int32) _ q2 e2) lkX4_60 ly17 rfl rfl rfl ⟨Nat.le_of_ble_eq_true rfl, Nat.le_of_ble_eq_true rfl⟩ (Nat.le_of_ble_eq_true rfl) rfl dX4_bears_21 ?_
  obtain rfl := Option.some.inj h
  exact Rt.ret (v := some (.int q2.1)) dX4_bears_24 rfl rfl rfl
def fX4_bears_b63 (v1 : Int32) (v2 : Int32) (v3 : Int32) (σ : Sto) : Option (Int32 × Sto) := if 0 ≤ v3 then (some (v2, σ)) else (some (v1, σ))
set_option maxRecDepth 100000 in
set_option maxHeartbeats 4000000 in
theorem wfX4_bears_b63 (X : Scr) (v1 : Int32) (v2 : Int32) (v3 : Int32) (σ : Sto) (z : Int32 × Sto) (h : fX4_bears_b63 v1 v2 v3 σ = some z) : Rt X RX4 cX4_bears 4 (rmA 3 65) .ireturn 63 [(1, .int v1), (2, .int v2), (3, .int v3)] [] σ (some (.int z.1)) z.2 := by
  unfold fX4_bears_b63 at h
  refine Rt.iload_n 2 dX4_bears_63 rfl ?_
  refine Rt.if_ge 71 dX4_bears_64 (by decide) (fun c8 => ?_) (fun c8 => ?_)
  · replace h := (if_pos c8).symm.trans h
    refine Rt.iload_n 1 dX4_bears_71 rfl ?_
    obtain rfl := Option.some.inj h
    exact Rt.ret (v := some (.int v2)) dX4_bears_72 rfl rfl rfl
  · replace h := (if_neg c8).symm.trans h
    refine Rt.iload_n 0 dX4_bears_67 rfl ?_
    refine Rt.goto 72 dX4_bears_68 (by decide) ?_
    obtain rfl := Option.some.inj h
    exact Rt.ret (v := some (.int v1)) dX4_bears_72 rfl rfl rfl
def fX4_bears_b55 (v1 : Int32) (v2 : Int32) (v3 : Int32) (σ : Sto) : Option (Int32 × Sto) := if v3 = 0 then (fX4_bears_b63 v1 v2 (v1 - v2) σ) else (fX4_bears_b63 v1 v2 v3 σ)
set_option maxRecDepth 100000 in
set_option maxHeartbeats 4000000 in
theorem wfX4_bears_b55 (X : Scr) (v1 : Int32) (v2 : Int32) (v3 : Int32) (σ : Sto) (z : Int32 × Sto) (h : fX4_bears_b55 v1 v2 v3 σ = some z) : Rt X RX4 cX4_bears 4 (rmA 3 65) .ireturn 55 [(1, .int v1), (2, .int v2), (3, .int v3)] [] σ (some (.int z.1)) z.2 := by
  unfold fX4_bears_b55 at h
  refine Rt.iload_n 2 dX4_bears_55 rfl ?_
  refine Rt.if_ne 63 dX4_bears_56 (by decide) (fun c7 => ?_) (fun c7 => ?_)
  · replace h := (if_neg c7).symm.trans h
    exact wfX4_bears_b63 X v1 v2 v3 _ z h
  · replace h := (if_pos c7).symm.trans h
    refine Rt.iload_n 0 dX4_bears_59 rfl ?_
    refine Rt.iload_n 1 dX4_bears_60 rfl ?_
    refine Rt.isub dX4_bears_61 ?_
    refine Rt.istore_n [(3, _), (1, _), (2, _)] dX4_bears_62 (by decide) rfl ?_
    refine Rt.pick [1, 2, 0] rfl ?_
    exact wfX4_bears_b63 X v1 v2 (v1 - v2) _ z h
def fX4_bears (v1 : Int32) (v2 : Int32) (σ : Sto) : Option (Int32 × Sto) := (fX4_isCell v1 σ).bind fun q1 => if q1.1 = 0 then (fX4_bears_b19 q1.2) else ((fX4_isCell v2 q1.2).bind fun q3 => if q3.1 = 0 then (fX4_bears_b19 q3.2) else (if v1 = v2 then (fX4_bears_b19 q3.2) else (if inb v1 24 = true then (if inb v2 24 = true then (if ((q3.2 19 (v1).toNatClampNeg) - (q3.2 19 (v2).toNatClampNeg)) = 0 then ((fX4_soreAround v1 q3.2).bind fun q4 => (fX4_soreAround v2 q4.2).bind fun q5 => fX4_bears_b55 v1 v2 (q4.1 - q5.1) q5.2) else (fX4_bears_b55 v1 v2 ((q3.2 19 (v1).toNatClampNeg) - (q3.2 19 (v2).toNatClampNeg)) q3.2)) else none) else none)))
set_option maxRecDepth 100000 in
set_option maxHeartbeats 4000000 in
theorem wfX4_bears (X : Scr) (v1 : Int32) (v2 : Int32) (σ : Sto) (z : Int32 × Sto) (h : fX4_bears v1 v2 σ = some z) : Rt X RX4 cX4_bears 4 (rmA 3 65) .ireturn 0 [(0, .ref 17), (1, .int v1), (2, .int v2)] [] σ (some (.int z.1)) z.2 := by
  unfold fX4_bears at h
  refine Rt.iload_n 1 dX4_bears_0 rfl ?_
  obtain ⟨q1, e1, h⟩ := bnd h
  refine Rt.cS (mfX4_isCell v1 _ q1 e1) lkX4_104 rfl ⟨Nat.le_of_ble_eq_true rfl, Nat.le_of_ble_eq_true rfl⟩ (Nat.le_of_ble_eq_true rfl) rfl dX4_bears_1 ?_
  refine Rt.if_eq 19 dX4_bears_4 (by decide) (fun c1 => ?_) (fun c1 => ?_)
  · replace h := (if_pos c1).symm.trans h
    refine Rt.pick [0] rfl ?_
    exact wfX4_bears_b19 X _ z h
  · replace h := (if_neg c1).symm.trans h
    refine Rt.iload_n 2 dX4_bears_7 rfl ?_
    obtain ⟨q3, e3, h⟩ := bnd h
    refine Rt.cS (mfX4_isCell v2 _ q3 e3) lkX4_104 rfl ⟨Nat.le_of_ble_eq_true rfl, Nat.le_of_ble_eq_true rfl⟩ (Nat.le_of_ble_eq_true rfl) rfl dX4_bears_8 ?_
    refine Rt.if_eq 19 dX4_bears_11 (by decide) (fun c2 => ?_) (fun c2 => ?_)
    · replace h := (if_pos c2).symm.trans h
      refine Rt.pick [0] rfl ?_
      exact wfX4_bears_b19 X _ z h
    · replace h := (if_neg c2).symm.trans h
      refine Rt.iload_n 1 dX4_bears_14 rfl ?_
      refine Rt.iload_n 2 dX4_bears_15 rfl ?_
      refine Rt.icmp_ne 25 dX4_bears_16 (by decide) (fun c3 => ?_) (fun c3 => ?_)
      · replace h := (if_neg c3).symm.trans h
        refine Rt.aload_n 0 dX4_bears_25 rfl ?_
        refine gfX4_13 ly17 dX4_bears_26 ?_
        refine Rt.iload_n 1 dX4_bears_29 rfl ?_
        obtain ⟨g4, h⟩ := gd h
        refine Rt.iald ly19 g4 dX4_bears_30 ?_
        refine Rt.aload_n 0 dX4_bears_31 rfl ?_
        refine gfX4_13 ly17 dX4_bears_32 ?_
        refine Rt.iload_n 2 dX4_bears_35 rfl ?_
        obtain ⟨g5, h⟩ := gd h
        refine Rt.iald ly19 g5 dX4_bears_36 ?_
        refine Rt.isub dX4_bears_37 ?_
        refine Rt.istore_n [(3, _), (0, _), (1, _), (2, _)] dX4_bears_38 (by decide) rfl ?_
        refine Rt.iload_n 0 dX4_bears_39 rfl ?_
        refine Rt.if_ne 55 dX4_bears_40 (by decide) (fun c6 => ?_) (fun c6 => ?_)
        · replace h := (if_neg c6).symm.trans h
          refine Rt.pick [2, 3, 0] rfl ?_
          exact wfX4_bears_b55 X v1 v2 ((q3.2 19 (v1).toNatClampNeg) - (q3.2 19 (v2).toNatClampNeg)) _ z h
        · replace h := (if_pos c6).symm.trans h
          refine Rt.aload_n 1 dX4_bears_43 rfl ?_
          refine Rt.iload_n 2 dX4_bears_44 rfl ?_
          obtain ⟨q4, e4, h⟩ := bnd h
          refine Rt.cV (mfX4_soreAround v1 _ q4 e4) lkX4_231 ly17 rfl rfl rfl ⟨Nat.le_of_ble_eq_true rfl, Nat.le_of_ble_eq_true rfl⟩ (Nat.le_of_ble_eq_true rfl) rfl dX4_bears_45 ?_
          refine Rt.aload_n 1 dX4_bears_48 rfl ?_
          refine Rt.iload_n 3 dX4_bears_49 rfl ?_
          obtain ⟨q5, e5, h⟩ := bnd h
          refine Rt.cV (mfX4_soreAround v2 _ q5 e5) lkX4_231 ly17 rfl rfl rfl ⟨Nat.le_of_ble_eq_true rfl, Nat.le_of_ble_eq_true rfl⟩ (Nat.le_of_ble_eq_true rfl) rfl dX4_bears_50 ?_
          refine Rt.isub dX4_bears_53 ?_
          refine Rt.istore_n [(3, _), (0, _), (1, _), (2, _)] dX4_bears_54 (by decide) rfl ?_
          refine Rt.pick [2, 3, 0] rfl ?_
          exact wfX4_bears_b55 X v1 v2 (q4.1 - q5.1) _ z h
      · replace h := (if_pos c3).symm.trans h
        refine Rt.pick [0] rfl ?_
        exact wfX4_bears_b19 X _ z h
set_option maxRecDepth 100000 in
set_option maxHeartbeats 4000000 in
theorem mfX4_bears (v1 : Int32) (v2 : Int32) (σ : Sto) (z : Int32 × Sto) (h : fX4_bears v1 v2 σ = some z) : AM yX4_bears cX4_bears 4 (some .int) 3 65 [.ref 17, .int v1, .int v2] σ (some (.int z.1)) z.2 := AM.int rfl (Nat.le_of_ble_eq_true rfl) (fun X => wfX4_bears X v1 v2 σ z h)
-- fX4_boxOf
def fX4_boxOf (v0 : Int32) (v1 : Int32) (v2 : Int32) (σ : Sto) : Option (Int32 × Sto) := some (((v1 * (((v2 / (6 : Int32)) * v0) / (4 : Int32))) + (((irm v2 (6 : Int32)) * v1) / (6 : Int32))), σ)
set_option maxRecDepth 100000 in
set_option maxHeartbeats 4000000 in
theorem wfX4_boxOf (X : Scr) (v0 : Int32) (v1 : Int32) (v2 : Int32) (σ : Sto) (z : Int32 × Sto) (h : fX4_boxOf v0 v1 v2 σ = some z) : Rt X RX4 cX4_boxOf 3 (rmA 0 0) .ireturn 0 [(0, .int v0), (1, .int v1), (2, .int v2)] [] σ (some (.int z.1)) z.2 := by
  unfold fX4_boxOf at h
  refine Rt.iload_n 1 dX4_boxOf_0 rfl ?_
  refine Rt.iload_n 2 dX4_boxOf_1 rfl ?_
  refine Rt.bipush 6 dX4_boxOf_2 (by decide) ?_
  refine Rt.idiv dX4_boxOf_4 (by decide) ?_
  refine Rt.iload_n 0 dX4_boxOf_5 rfl ?_
  refine Rt.imul dX4_boxOf_6 ?_
  refine Rt.iconst 4 dX4_boxOf_7 (by decide) ?_
  refine Rt.idiv dX4_boxOf_8 (by decide) ?_
  refine Rt.imul dX4_boxOf_9 ?_
  refine Rt.iload_n 2 dX4_boxOf_10 rfl ?_
  refine Rt.bipush 6 dX4_boxOf_11 (by decide) ?_
  refine Rt.rem dX4_boxOf_13 (by decide) ?_
  refine Rt.iload_n 1 dX4_boxOf_14 rfl ?_
  refine Rt.imul dX4_boxOf_15 ?_
  refine Rt.bipush 6 dX4_boxOf_16 (by decide) ?_
  refine Rt.idiv dX4_boxOf_18 (by decide) ?_
  refine Rt.iadd dX4_boxOf_19 ?_
  obtain rfl := Option.some.inj h
  exact Rt.ret (v := some (.int ((v1 * (((v2 / (6 : Int32)) * v0) / (4 : Int32))) + (((irm v2 (6 : Int32)) * v1) / (6 : Int32))))) dX4_boxOf_20 rfl rfl rfl
set_option maxRecDepth 100000 in
set_option maxHeartbeats 4000000 in
theorem mfX4_boxOf (v0 : Int32) (v1 : Int32) (v2 : Int32) (σ : Sto) (z : Int32 × Sto) (h : fX4_boxOf v0 v1 v2 σ = some z) : AM yX4_boxOf cX4_boxOf 3 (some .int) 0 0 [.int v0, .int v1, .int v2] σ (some (.int z.1)) z.2 := AM.int rfl (Nat.le_of_ble_eq_true rfl) (fun X => wfX4_boxOf X v0 v1 v2 σ z h)
-- fX4_grid
def fX4_grid_b112 (k86 : Int32 → Int32 → Int32 → Int32 → Int32 → Int32 → Sto → Option (Int32 × Sto)) (v1 : Int32) (v2 : Int32) (v4 : Int32) (v6 : Int32) (v8 : Int32) (s0 : Int32) (s1 : Int32) (σ : Sto) : Option (Int32 × Sto) := k86 v1 v2 v4 v6 (s1 + s0) (v8 + (1 : Int32)) σ
set_option maxRecDepth 100000 in
set_option maxHeartbeats 4000000 in
theorem wfX4_grid_b112 (X : Scr) (k86 : Int32 → Int32 → Int32 → Int32 → Int32 → Int32 → Sto → Option (Int32 × Sto)) (hk86 : ∀ (v1 : Int32) (v2 : Int32) (v4 : Int32) (v6 : Int32) (v7 : Int32) (v8 : Int32) (σ : Sto) (z : Int32 × Sto), k86 v1 v2 v4 v6 v7 v8 σ = some z → Rt X RX4 cX4_grid 9 (rmA 1 22) .ireturn 86 [(1, .int v1), (2, .int v2), (4, .int v4), (6, .int v6), (7, .int v7), (8, .int v8)] [] σ (some (.int z.1)) z.2) (v1 : Int32) (v2 : Int32) (v4 : Int32) (v6 : Int32) (v8 : Int32) (s0 : Int32) (s1 : Int32) (σ : Sto) (z : Int32 × Sto) (h : fX4_grid_b112 k86 v1 v2 v4 v6 v8 s0 s1 σ = some z) : Rt X RX4 cX4_grid 9 (rmA 1 22) .ireturn 112 [(1, .int v1), (2, .int v2), (4, .int v4), (6, .int v6), (8, .int v8)] [.int s0, .int s1] σ (some (.int z.1)) z.2 := by
  unfold fX4_grid_b112 at h
  refine Rt.iadd dX4_grid_112 ?_
  refine Rt.istore [(7, _), (1, _), (2, _), (4, _), (6, _), (8, _)] dX4_grid_113 (by decide) rfl ?_
  refine Rt.iinc [(8, _), (7, _), (1, _), (2, _), (4, _), (6, _)] (v8 + (1 : Int32)) 5 dX4_grid_115 rfl rfl (by decide) rfl ?_
  refine Rt.goto 86 dX4_grid_118 (by decide) ?_
  refine Rt.pick [2, 3, 4, 5, 1, 0] rfl ?_
  exact hk86 v1 v2 v4 v6 (s1 + s0) (v8 + (1 : Int32)) _ z h
def fX4_grid_l86 : Nat → Int32 → Int32 → Int32 → Int32 → Int32 → Int32 → Sto → Option (Int32 × Sto)
  | 0, _, _, _, _, _, _, _ => none
  | n + 1, v1, v2, v4, v6, v7, v8, σ => if (24 : Int32) ≤ v8 then (if v4 = 0 then (some (v6, σ)) else (some (v7, σ))) else ((fX4_boxOf v1 v2 v8 σ).bind fun q2 => if q2.1 = v6 then (fX4_grid_b112 (fun a0 a1 a2 a3 a4 a5 s => fX4_grid_l86 n a0 a1 a2 a3 a4 a5 s) v1 v2 v4 v6 v8 (1 : Int32) v7 q2.2) else (fX4_grid_b112 (fun a0 a1 a2 a3 a4 a5 s => fX4_grid_l86 n a0 a1 a2 a3 a4 a5 s) v1 v2 v4 v6 v8 (0 : Int32) v7 q2.2))
set_option maxRecDepth 100000 in
set_option maxHeartbeats 4000000 in
theorem wfX4_grid_l86 (X : Scr) : ∀ (n : Nat) (v1 : Int32) (v2 : Int32) (v4 : Int32) (v6 : Int32) (v7 : Int32) (v8 : Int32) (σ : Sto) (z : Int32 × Sto), fX4_grid_l86 n v1 v2 v4 v6 v7 v8 σ = some z → Rt X RX4 cX4_grid 9 (rmA 1 22) .ireturn 86 [(1, .int v1), (2, .int v2), (4, .int v4), (6, .int v6), (7, .int v7), (8, .int v8)] [] σ (some (.int z.1)) z.2 := by
  intro n
  induction n with
  | zero =>
    intro v1 v2 v4 v6 v7 v8 σ z h
    rw [fX4_grid_l86] at h
    cases h
  | succ n ih =>
    intro v1 v2 v4 v6 v7 v8 σ z h
    rw [fX4_grid_l86] at h
    refine Rt.iload 5 dX4_grid_86 rfl ?_
    refine Rt.bipush 24 dX4_grid_88 (by decide) ?_
    refine Rt.icmp_ge 121 dX4_grid_90 (by decide) (fun c3 => ?_) (fun c3 => ?_)
    · replace h := (if_pos c3).symm.trans h
      refine Rt.iload 2 dX4_grid_121 rfl ?_
      refine Rt.if_ne 131 dX4_grid_123 (by decide) (fun c4 => ?_) (fun c4 => ?_)
      · replace h := (if_neg c4).symm.trans h
        refine Rt.iload 4 dX4_grid_131 rfl ?_
        obtain rfl := Option.some.inj h
        exact Rt.ret (v := some (.int v7)) dX4_grid_133 rfl rfl rfl
      · replace h := (if_pos c4).symm.trans h
        refine Rt.iload 3 dX4_grid_126 rfl ?_
        refine Rt.goto 133 dX4_grid_128 (by decide) ?_
        obtain rfl := Option.some.inj h
        exact Rt.ret (v := some (.int v6)) dX4_grid_133 rfl rfl rfl
    · replace h := (if_neg c3).symm.trans h
      refine Rt.iload 4 dX4_grid_93 rfl ?_
      refine Rt.iload_n 0 dX4_grid_95 rfl ?_
      refine Rt.iload_n 1 dX4_grid_96 rfl ?_
      refine Rt.iload 5 dX4_grid_97 rfl ?_
      obtain ⟨q2, e2, h⟩ := bnd h
      refine Rt.cS (mfX4_boxOf v1 v2 v8 _ q2 e2) lkX4_234 rfl ⟨Nat.le_of_ble_eq_true rfl, Nat.le_of_ble_eq_true rfl⟩ (Nat.le_of_ble_eq_true rfl) rfl dX4_grid_99 ?_
      refine Rt.iload 3 dX4_grid_102 rfl ?_
      refine Rt.icmp_ne 111 dX4_grid_104 (by decide) (fun c5 => ?_) (fun c5 => ?_)
      · replace h := (if_neg c5).symm.trans h
        refine Rt.iconst 0 dX4_grid_111 (by decide) ?_
        refine Rt.pick [0, 1, 2, 3, 5] rfl ?_
        exact wfX4_grid_b112 X (fun a0 a1 a2 a3 a4 a5 s => fX4_grid_l86 n a0 a1 a2 a3 a4 a5 s) ih v1 v2 v4 v6 v8 (0 : Int32) v7 _ z h
      · replace h := (if_pos c5).symm.trans h
        refine Rt.iconst 1 dX4_grid_107 (by decide) ?_
        refine Rt.goto 112 dX4_grid_108 (by decide) ?_
        refine Rt.pick [0, 1, 2, 3, 5] rfl ?_
        exact wfX4_grid_b112 X (fun a0 a1 a2 a3 a4 a5 s => fX4_grid_l86 n a0 a1 a2 a3 a4 a5 s) ih v1 v2 v4 v6 v8 (1 : Int32) v7 _ z h
def fX4_grid_b58 (v1 : Int32) (v2 : Int32) (v3 : Int32) (v4 : Int32) (s0 : Int32) (σ : Sto) : Option (Int32 × Sto) := if s0 = 0 then ((fX4_boxOf v1 v2 v3 σ).bind fun q1 => fX4_grid_l86 300 v1 v2 v4 q1.1 (0 : Int32) (0 : Int32) q1.2) else ((fX4_no s0 σ).bind fun q3 => some (q3.1, q3.2))
set_option maxRecDepth 100000 in
set_option maxHeartbeats 4000000 in
theorem wfX4_grid_b58 (X : Scr) (v1 : Int32) (v2 : Int32) (v3 : Int32) (v4 : Int32) (s0 : Int32) (σ : Sto) (z : Int32 × Sto) (h : fX4_grid_b58 v1 v2 v3 v4 s0 σ = some z) : Rt X RX4 cX4_grid 9 (rmA 1 22) .ireturn 58 [(0, .ref 17), (1, .int v1), (2, .int v2), (3, .int v3), (4, .int v4)] [.int s0] σ (some (.int z.1)) z.2 := by
  unfold fX4_grid_b58 at h
  refine Rt.istore [(5, _), (0, _), (1, _), (2, _), (3, _), (4, _)] dX4_grid_58 (by decide) rfl ?_
  refine Rt.iload 0 dX4_grid_60 rfl ?_
  refine Rt.if_eq 72 dX4_grid_62 (by decide) (fun c2 => ?_) (fun c2 => ?_)
  · replace h := (if_pos c2).symm.trans h
    refine Rt.iload_n 2 dX4_grid_72 rfl ?_
    refine Rt.iload_n 3 dX4_grid_73 rfl ?_
    refine Rt.iload_n 4 dX4_grid_74 rfl ?_
    obtain ⟨q1, e1, h⟩ := bnd h
    refine Rt.cS (mfX4_boxOf v1 v2 v3 _ q1 e1) lkX4_234 rfl ⟨Nat.le_of_ble_eq_true rfl, Nat.le_of_ble_eq_true rfl⟩ (Nat.le_of_ble_eq_true rfl) rfl dX4_grid_75 ?_
    refine Rt.istore [(6, _), (5, _), (0, _), (1, _), (2, _), (3, _), (4, _)] dX4_grid_78 (by decide) rfl ?_
    refine Rt.iconst 0 dX4_grid_80 (by decide) ?_
    refine Rt.istore [(7, _), (6, _), (5, _), (0, _), (1, _), (2, _), (3, _), (4, _)] dX4_grid_81 (by decide) rfl ?_
    refine Rt.iconst 0 dX4_grid_83 (by decide) ?_
    refine Rt.istore [(8, _), (7, _), (6, _), (5, _), (0, _), (1, _), (2, _), (3, _), (4, _)] dX4_grid_84 (by decide) rfl ?_
    refine Rt.pick [5, 6, 8, 2, 1, 0] rfl ?_
    exact wfX4_grid_l86 X 300 v1 v2 v4 q1.1 (0 : Int32) (0 : Int32) _ z h
  · replace h := (if_neg c2).symm.trans h
    refine Rt.aload_n 1 dX4_grid_65 rfl ?_
    refine Rt.iload 0 dX4_grid_66 rfl ?_
    obtain ⟨q3, e3, h⟩ := bnd h
    refine Rt.cV (mfX4_no s0 _ q3 e3) lkX4_60 ly17 rfl rfl rfl ⟨Nat.le_of_ble_eq_true rfl, Nat.le_of_ble_eq_true rfl⟩ (Nat.le_of_ble_eq_true rfl) rfl dX4_grid_68 ?_
    obtain rfl := Option.some.inj h
    exact Rt.ret (v := some (.int q3.1)) dX4_grid_71 rfl rfl rfl
def fX4_grid_b10 (v1 : Int32) (v2 : Int32) (v3 : Int32) (v4 : Int32) (σ : Sto) : Option (Int32 × Sto) := fX4_grid_b58 v1 v2 v3 v4 (-4 : Int32) σ
set_option maxRecDepth 100000 in
set_option maxHeartbeats 4000000 in
theorem wfX4_grid_b10 (X : Scr) (v1 : Int32) (v2 : Int32) (v3 : Int32) (v4 : Int32) (σ : Sto) (z : Int32 × Sto) (h : fX4_grid_b10 v1 v2 v3 v4 σ = some z) : Rt X RX4 cX4_grid 9 (rmA 1 22) .ireturn 10 [(0, .ref 17), (1, .int v1), (2, .int v2), (3, .int v3), (4, .int v4)] [] σ (some (.int z.1)) z.2 := by
  unfold fX4_grid_b10 at h
  refine Rt.bipush (-4) dX4_grid_10 (by decide) ?_
  refine Rt.goto 58 dX4_grid_12 (by decide) ?_
  exact wfX4_grid_b58 X v1 v2 v3 v4 (-4 : Int32) _ z h
def fX4_grid_b26 (v1 : Int32) (v2 : Int32) (v3 : Int32) (v4 : Int32) (σ : Sto) : Option (Int32 × Sto) := fX4_grid_b58 v1 v2 v3 v4 (-6 : Int32) σ
set_option maxRecDepth 100000 in
set_option maxHeartbeats 4000000 in
theorem wfX4_grid_b26 (X : Scr) (v1 : Int32) (v2 : Int32) (v3 : Int32) (v4 : Int32) (σ : Sto) (z : Int32 × Sto) (h : fX4_grid_b26 v1 v2 v3 v4 σ = some z) : Rt X RX4 cX4_grid 9 (rmA 1 22) .ireturn 26 [(0, .ref 17), (1, .int v1), (2, .int v2), (3, .int v3), (4, .int v4)] [] σ (some (.int z.1)) z.2 := by
  unfold fX4_grid_b26 at h
  refine Rt.bipush (-6) dX4_grid_26 (by decide) ?_
  refine Rt.goto 58 dX4_grid_28 (by decide) ?_
  exact wfX4_grid_b58 X v1 v2 v3 v4 (-6 : Int32) _ z h
def fX4_grid (v1 : Int32) (v2 : Int32) (v3 : Int32) (v4 : Int32) (σ : Sto) : Option (Int32 × Sto) := if v1 < (1 : Int32) then (fX4_grid_b10 v1 v2 v3 v4 σ) else (if (1 : Int32) ≤ v2 then (if (4 : Int32) < v1 then (fX4_grid_b26 v1 v2 v3 v4 σ) else (if v2 ≤ (6 : Int32) then ((fX4_isCell v3 σ).bind fun q4 => if q4.1 = 0 then (fX4_grid_b58 v1 v2 v3 v4 (-1 : Int32) q4.2) else ((fX4_isIn v4 (0 : Int32) (1 : Int32) q4.2).bind fun q5 => if q5.1 = 0 then (fX4_grid_b58 v1 v2 v3 v4 (-2 : Int32) q5.2) else (fX4_grid_b58 v1 v2 v3 v4 (0 : Int32) q5.2))) else (fX4_grid_b26 v1 v2 v3 v4 σ))) else (fX4_grid_b10 v1 v2 v3 v4 σ))
set_option maxRecDepth 100000 in
set_option maxHeartbeats 4000000 in
theorem wfX4_grid (X : Scr) (v1 : Int32) (v2 : Int32) (v3 : Int32) (v4 : Int32) (σ : Sto) (z : Int32 × Sto) (h : fX4_grid v1 v2 v3 v4 σ = some z) : Rt X RX4 cX4_grid 9 (rmA 1 22) .ireturn 0 [(0, .ref 17), (1, .int v1), (2, .int v2), (3, .int v3), (4, .int v4)] [] σ (some (.int z.1)) z.2 := by
  unfold fX4_grid at h
  refine Rt.iload_n 1 dX4_grid_0 rfl ?_
  refine Rt.iconst 1 dX4_grid_1 (by decide) ?_
  refine Rt.icmp_lt 10 dX4_grid_2 (by decide) (fun c1 => ?_) (fun c1 => ?_)
  · replace h := (if_pos c1).symm.trans h
    exact wfX4_grid_b10 X v1 v2 v3 v4 _ z h
  · replace h := (if_neg c1).symm.trans h
    refine Rt.iload_n 2 dX4_grid_5 rfl ?_
    refine Rt.iconst 1 dX4_grid_6 (by decide) ?_
    refine Rt.icmp_ge 15 dX4_grid_7 (by decide) (fun c6 => ?_) (fun c6 => ?_)
    · replace h := (if_pos c6).symm.trans h
      refine Rt.iload_n 1 dX4_grid_15 rfl ?_
      refine Rt.iconst 4 dX4_grid_16 (by decide) ?_
      refine Rt.icmp_gt 26 dX4_grid_17 (by decide) (fun c7 => ?_) (fun c7 => ?_)
      · replace h := (if_pos c7).symm.trans h
        exact wfX4_grid_b26 X v1 v2 v3 v4 _ z h
      · replace h := (if_neg c7).symm.trans h
        refine Rt.iload_n 2 dX4_grid_20 rfl ?_
        refine Rt.bipush 6 dX4_grid_21 (by decide) ?_
        refine Rt.icmp_le 31 dX4_grid_23 (by decide) (fun c8 => ?_) (fun c8 => ?_)
        · replace h := (if_pos c8).symm.trans h
          refine Rt.iload_n 3 dX4_grid_31 rfl ?_
          obtain ⟨q4, e4, h⟩ := bnd h
          refine Rt.cS (mfX4_isCell v3 _ q4 e4) lkX4_104 rfl ⟨Nat.le_of_ble_eq_true rfl, Nat.le_of_ble_eq_true rfl⟩ (Nat.le_of_ble_eq_true rfl) rfl dX4_grid_32 ?_
          refine Rt.if_ne 42 dX4_grid_35 (by decide) (fun c9 => ?_) (fun c9 => ?_)
          · replace h := (if_neg c9).symm.trans h
            refine Rt.iload 4 dX4_grid_42 rfl ?_
            refine Rt.iconst 0 dX4_grid_44 (by decide) ?_
            refine Rt.iconst 1 dX4_grid_45 (by decide) ?_
            obtain ⟨q5, e5, h⟩ := bnd h
            refine Rt.cS (mfX4_isIn v4 (0 : Int32) (1 : Int32) _ q5 e5) lkX4_71 rfl ⟨Nat.le_of_ble_eq_true rfl, Nat.le_of_ble_eq_true rfl⟩ (Nat.le_of_ble_eq_true rfl) rfl dX4_grid_46 ?_
            refine Rt.if_ne 57 dX4_grid_49 (by decide) (fun c10 => ?_) (fun c10 => ?_)
            · replace h := (if_neg c10).symm.trans h
              refine Rt.iconst 0 dX4_grid_57 (by decide) ?_
              exact wfX4_grid_b58 X v1 v2 v3 v4 (0 : Int32) _ z h
            · replace h := (if_pos c10).symm.trans h
              refine Rt.bipush (-2) dX4_grid_52 (by decide) ?_
              refine Rt.goto 58 dX4_grid_54 (by decide) ?_
              exact wfX4_grid_b58 X v1 v2 v3 v4 (-2 : Int32) _ z h
          · replace h := (if_pos c9).symm.trans h
            refine Rt.iconst (-1) dX4_grid_38 (by decide) ?_
            refine Rt.goto 58 dX4_grid_39 (by decide) ?_
            exact wfX4_grid_b58 X v1 v2 v3 v4 (-1 : Int32) _ z h
        · replace h := (if_neg c8).symm.trans h
          exact wfX4_grid_b26 X v1 v2 v3 v4 _ z h
    · replace h := (if_neg c6).symm.trans h
      exact wfX4_grid_b10 X v1 v2 v3 v4 _ z h
set_option maxRecDepth 100000 in
set_option maxHeartbeats 4000000 in
theorem mfX4_grid (v1 : Int32) (v2 : Int32) (v3 : Int32) (v4 : Int32) (σ : Sto) (z : Int32 × Sto) (h : fX4_grid v1 v2 v3 v4 σ = some z) : AM yX4_grid cX4_grid 9 (some .int) 1 22 [.ref 17, .int v1, .int v2, .int v3, .int v4] σ (some (.int z.1)) z.2 := AM.int rfl (Nat.le_of_ble_eq_true rfl) (fun X => wfX4_grid X v1 v2 v3 v4 σ z h)
-- fX4_taught
def fX4_taught_b72 (k23 : Int32 → Int32 → Int32 → Sto → Option (Int32 × Sto)) (v1 : Int32) (v2 : Int32) (v3 : Int32) (σ : Sto) : Option (Int32 × Sto) := k23 v1 v2 (v3 + (1 : Int32)) σ
set_option maxRecDepth 100000 in
set_option maxHeartbeats 4000000 in
theorem wfX4_taught_b72 (X : Scr) (k23 : Int32 → Int32 → Int32 → Sto → Option (Int32 × Sto)) (hk23 : ∀ (v1 : Int32) (v2 : Int32) (v3 : Int32) (σ : Sto) (z : Int32 × Sto), k23 v1 v2 v3 σ = some z → Rt X RX4 cX4_taught 5 (rmA 3 73) .ireturn 23 [(0, .ref 17), (1, .int v1), (2, .int v2), (3, .int v3)] [] σ (some (.int z.1)) z.2) (v1 : Int32) (v2 : Int32) (v3 : Int32) (σ : Sto) (z : Int32 × Sto) (h : fX4_taught_b72 k23 v1 v2 v3 σ = some z) : Rt X RX4 cX4_taught 5 (rmA 3 73) .ireturn 72 [(0, .ref 17), (1, .int v1), (2, .int v2), (3, .int v3)] [] σ (some (.int z.1)) z.2 := by
  unfold fX4_taught_b72 at h
  refine Rt.iinc [(3, _), (0, _), (1, _), (2, _)] (v3 + (1 : Int32)) 3 dX4_taught_72 rfl rfl (by decide) rfl ?_
  refine Rt.goto 23 dX4_taught_75 (by decide) ?_
  refine Rt.pick [1, 2, 3, 0] rfl ?_
  exact hk23 v1 v2 (v3 + (1 : Int32)) _ z h
def fX4_taught_l23 : Nat → Int32 → Int32 → Int32 → Sto → Option (Int32 × Sto)
  | 0, _, _, _, _ => none
  | n + 1, v1, v2, v3, σ => if (8 : Int32) ≤ v3 then (some (v1, σ)) else ((fX4_rightBy (σ 17 4) (v3 / (4 : Int32)) ((2 : Int32) + (irm v3 (4 : Int32))) σ).bind fun q1 => if v2 < q1.1 then (fX4_taught_b72 (fun a0 a1 a2 s => fX4_taught_l23 n a0 a1 a2 s) ((((10 : Int32) * (v3 / (4 : Int32))) + (2 : Int32)) + (irm v3 (4 : Int32))) q1.1 v3 q1.2) else (fX4_taught_b72 (fun a0 a1 a2 s => fX4_taught_l23 n a0 a1 a2 s) v1 v2 v3 q1.2))
set_option maxRecDepth 100000 in
set_option maxHeartbeats 4000000 in
theorem wfX4_taught_l23 (X : Scr) : ∀ (n : Nat) (v1 : Int32) (v2 : Int32) (v3 : Int32) (σ : Sto) (z : Int32 × Sto), fX4_taught_l23 n v1 v2 v3 σ = some z → Rt X RX4 cX4_taught 5 (rmA 3 73) .ireturn 23 [(0, .ref 17), (1, .int v1), (2, .int v2), (3, .int v3)] [] σ (some (.int z.1)) z.2 := by
  intro n
  induction n with
  | zero =>
    intro v1 v2 v3 σ z h
    rw [fX4_taught_l23] at h
    cases h
  | succ n ih =>
    intro v1 v2 v3 σ z h
    rw [fX4_taught_l23] at h
    refine Rt.iload_n 3 dX4_taught_23 rfl ?_
    refine Rt.bipush 8 dX4_taught_24 (by decide) ?_
    refine Rt.icmp_ge 78 dX4_taught_26 (by decide) (fun c2 => ?_) (fun c2 => ?_)
    · replace h := (if_pos c2).symm.trans h
      refine Rt.iload_n 1 dX4_taught_78 rfl ?_
      obtain rfl := Option.some.inj h
      exact Rt.ret (v := some (.int v1)) dX4_taught_79 rfl rfl rfl
    · replace h := (if_neg c2).symm.trans h
      refine Rt.aload_n 0 dX4_taught_29 rfl ?_
      refine Rt.aload_n 0 dX4_taught_30 rfl ?_
      refine gfX4_101 ly17 dX4_taught_31 ?_
      refine Rt.iload_n 3 dX4_taught_34 rfl ?_
      refine Rt.iconst 4 dX4_taught_35 (by decide) ?_
      refine Rt.idiv dX4_taught_36 (by decide) ?_
      refine Rt.iconst 2 dX4_taught_37 (by decide) ?_
      refine Rt.iload_n 3 dX4_taught_38 rfl ?_
      refine Rt.iconst 4 dX4_taught_39 (by decide) ?_
      refine Rt.rem dX4_taught_40 (by decide) ?_
      refine Rt.iadd dX4_taught_41 ?_
      obtain ⟨q1, e1, h⟩ := bnd h
      refine Rt.cV (mfX4_rightBy (σ 17 4) (v3 / (4 : Int32)) ((2 : Int32) + (irm v3 (4 : Int32))) _ q1 e1) lkX4_211 ly17 rfl rfl rfl ⟨Nat.le_of_ble_eq_true rfl, Nat.le_of_ble_eq_true rfl⟩ (Nat.le_of_ble_eq_true rfl) rfl dX4_taught_42 ?_
      refine Rt.istore [(4, _), (0, _), (1, _), (2, _), (3, _)] dX4_taught_45 (by decide) rfl ?_
      refine Rt.iload 0 dX4_taught_47 rfl ?_
      refine Rt.iload_n 3 dX4_taught_49 rfl ?_
      refine Rt.icmp_gt 56 dX4_taught_50 (by decide) (fun c3 => ?_) (fun c3 => ?_)
      · replace h := (if_pos c3).symm.trans h
        refine Rt.bipush 10 dX4_taught_56 (by decide) ?_
        refine Rt.iload_n 4 dX4_taught_58 rfl ?_
        refine Rt.iconst 4 dX4_taught_59 (by decide) ?_
        refine Rt.idiv dX4_taught_60 (by decide) ?_
        refine Rt.imul dX4_taught_61 ?_
        refine Rt.iconst 2 dX4_taught_62 (by decide) ?_
        refine Rt.iadd dX4_taught_63 ?_
        refine Rt.iload_n 4 dX4_taught_64 rfl ?_
        refine Rt.iconst 4 dX4_taught_65 (by decide) ?_
        refine Rt.rem dX4_taught_66 (by decide) ?_
        refine Rt.iadd dX4_taught_67 ?_
        refine Rt.istore_n [(1, _), (4, _), (0, _), (2, _), (3, _)] dX4_taught_68 (by decide) rfl ?_
        refine Rt.iload 1 dX4_taught_69 rfl ?_
        refine Rt.istore_n [(2, _), (1, _), (4, _), (0, _), (3, _)] dX4_taught_71 (by decide) rfl ?_
        refine Rt.pick [3, 1, 0, 4] rfl ?_
        exact wfX4_taught_b72 X (fun a0 a1 a2 s => fX4_taught_l23 n a0 a1 a2 s) ih ((((10 : Int32) * (v3 / (4 : Int32))) + (2 : Int32)) + (irm v3 (4 : Int32))) q1.1 v3 _ z h
      · replace h := (if_neg c3).symm.trans h
        refine Rt.goto 72 dX4_taught_53 (by decide) ?_
        refine Rt.pick [1, 2, 3, 4] rfl ?_
        exact wfX4_taught_b72 X (fun a0 a1 a2 s => fX4_taught_l23 n a0 a1 a2 s) ih v1 v2 v3 _ z h
def fX4_taught (σ : Sto) : Option (Int32 × Sto) := if (σ 17 4) = (24 : Int32) then ((fX4_no (-3 : Int32) σ).bind fun q2 => some (q2.1, q2.2)) else (fX4_taught_l23 300 (-9 : Int32) (-1 : Int32) (0 : Int32) σ)
set_option maxRecDepth 100000 in
set_option maxHeartbeats 4000000 in
theorem wfX4_taught (X : Scr) (σ : Sto) (z : Int32 × Sto) (h : fX4_taught σ = some z) : Rt X RX4 cX4_taught 5 (rmA 3 73) .ireturn 0 [(0, .ref 17)] [] σ (some (.int z.1)) z.2 := by
  unfold fX4_taught at h
  refine Rt.aload_n 0 dX4_taught_0 rfl ?_
  refine gfX4_101 ly17 dX4_taught_1 ?_
  refine Rt.bipush 24 dX4_taught_4 (by decide) ?_
  refine Rt.icmp_ne 16 dX4_taught_6 (by decide) (fun c1 => ?_) (fun c1 => ?_)
  · replace h := (if_neg c1).symm.trans h
    refine Rt.bipush (-9) dX4_taught_16 (by decide) ?_
    refine Rt.istore_n [(1, _), (0, _)] dX4_taught_18 (by decide) rfl ?_
    refine Rt.iconst (-1) dX4_taught_19 (by decide) ?_
    refine Rt.istore_n [(2, _), (1, _), (0, _)] dX4_taught_20 (by decide) rfl ?_
    refine Rt.iconst 0 dX4_taught_21 (by decide) ?_
    refine Rt.istore_n [(3, _), (2, _), (1, _), (0, _)] dX4_taught_22 (by decide) rfl ?_
    refine Rt.pick [3, 2, 1, 0] rfl ?_
    exact wfX4_taught_l23 X 300 (-9 : Int32) (-1 : Int32) (0 : Int32) _ z h
  · replace h := (if_pos c1).symm.trans h
    refine Rt.aload_n 0 dX4_taught_9 rfl ?_
    refine Rt.bipush (-3) dX4_taught_10 (by decide) ?_
    obtain ⟨q2, e2, h⟩ := bnd h
    refine Rt.cV (mfX4_no (-3 : Int32) _ q2 e2) lkX4_60 ly17 rfl rfl rfl ⟨Nat.le_of_ble_eq_true rfl, Nat.le_of_ble_eq_true rfl⟩ (Nat.le_of_ble_eq_true rfl) rfl dX4_taught_12 ?_
    obtain rfl := Option.some.inj h
    exact Rt.ret (v := some (.int q2.1)) dX4_taught_15 rfl rfl rfl
set_option maxRecDepth 100000 in
set_option maxHeartbeats 4000000 in
theorem mfX4_taught (σ : Sto) (z : Int32 × Sto) (h : fX4_taught σ = some z) : AM yX4_taught cX4_taught 5 (some .int) 3 73 [.ref 17] σ (some (.int z.1)) z.2 := AM.int rfl (Nat.le_of_ble_eq_true rfl) (fun X => wfX4_taught X σ z h)
-- fX4_row
def fX4_row_b24 (v1 : Int32) (v2 : Int32) (σ : Sto) : Option (Int32 × Sto) := if v2 = 0 then (if inb (σ 17 25) 20 = true then (some (((upS (upS σ 29 ((σ 17 25)).toNatClampNeg v1) 17 25 (((upS σ 29 ((σ 17 25)).toNatClampNeg v1) 17 25) + (1 : Int32))) 17 25), (upS (upS σ 29 ((σ 17 25)).toNatClampNeg v1) 17 25 (((upS σ 29 ((σ 17 25)).toNatClampNeg v1) 17 25) + (1 : Int32))))) else none) else ((fX4_no v2 σ).bind fun q2 => some (q2.1, q2.2))
set_option maxRecDepth 100000 in
set_option maxHeartbeats 4000000 in
theorem wfX4_row_b24 (X : Scr) (v1 : Int32) (v2 : Int32) (σ : Sto) (z : Int32 × Sto) (h : fX4_row_b24 v1 v2 σ = some z) : Rt X RX4 cX4_row 3 (rmA 1 22) .ireturn 24 [(0, .ref 17), (1, .int v1), (2, .int v2)] [] σ (some (.int z.1)) z.2 := by
  unfold fX4_row_b24 at h
  refine Rt.iload_n 2 dX4_row_24 rfl ?_
  refine Rt.if_eq 34 dX4_row_25 (by decide) (fun c2 => ?_) (fun c2 => ?_)
  · replace h := (if_pos c2).symm.trans h
    refine Rt.aload_n 0 dX4_row_34 rfl ?_
    refine gfX4_43 ly17 dX4_row_35 ?_
    refine Rt.aload_n 0 dX4_row_38 rfl ?_
    refine gfX4_237 ly17 dX4_row_39 ?_
    refine Rt.iload_n 1 dX4_row_42 rfl ?_
    obtain ⟨g3, h⟩ := gd h
    refine Rt.iast ly29 g3 dX4_row_43 ?_
    refine Rt.aload_n 0 dX4_row_44 rfl ?_
    refine Rt.dup dX4_row_45 rfl ?_
    refine gfX4_237 ly17 dX4_row_46 ?_
    refine Rt.iconst 1 dX4_row_49 (by decide) ?_
    refine Rt.iadd dX4_row_50 ?_
    refine pfX4_237 ly17 dX4_row_51 ?_
    refine Rt.aload_n 0 dX4_row_54 rfl ?_
    refine gfX4_237 ly17 dX4_row_55 ?_
    obtain rfl := Option.some.inj h
    exact Rt.ret (v := some (.int ((upS (upS σ 29 ((σ 17 25)).toNatClampNeg v1) 17 25 (((upS σ 29 ((σ 17 25)).toNatClampNeg v1) 17 25) + (1 : Int32))) 17 25))) dX4_row_58 rfl rfl rfl
  · replace h := (if_neg c2).symm.trans h
    refine Rt.aload_n 0 dX4_row_28 rfl ?_
    refine Rt.iload_n 2 dX4_row_29 rfl ?_
    obtain ⟨q2, e2, h⟩ := bnd h
    refine Rt.cV (mfX4_no v2 _ q2 e2) lkX4_60 ly17 rfl rfl rfl ⟨Nat.le_of_ble_eq_true rfl, Nat.le_of_ble_eq_true rfl⟩ (Nat.le_of_ble_eq_true rfl) rfl dX4_row_30 ?_
    obtain rfl := Option.some.inj h
    exact Rt.ret (v := some (.int q2.1)) dX4_row_33 rfl rfl rfl
def fX4_row (v1 : Int32) (σ : Sto) : Option (Int32 × Sto) := (fX4_bound v1 (0 : Int32) (24 : Int32) σ).bind fun q1 => if q1.1 = 0 then (if (q1.2 17 25) = (20 : Int32) then (fX4_row_b24 v1 (-6 : Int32) q1.2) else (fX4_row_b24 v1 q1.1 q1.2)) else (fX4_row_b24 v1 q1.1 q1.2)
set_option maxRecDepth 100000 in
set_option maxHeartbeats 4000000 in
theorem wfX4_row (X : Scr) (v1 : Int32) (σ : Sto) (z : Int32 × Sto) (h : fX4_row v1 σ = some z) : Rt X RX4 cX4_row 3 (rmA 1 22) .ireturn 0 [(0, .ref 17), (1, .int v1)] [] σ (some (.int z.1)) z.2 := by
  unfold fX4_row at h
  refine Rt.iload_n 1 dX4_row_0 rfl ?_
  refine Rt.iconst 0 dX4_row_1 (by decide) ?_
  refine Rt.bipush 24 dX4_row_2 (by decide) ?_
  obtain ⟨q1, e1, h⟩ := bnd h
  refine Rt.cS (mfX4_bound v1 (0 : Int32) (24 : Int32) _ q1 e1) lkX4_52 rfl ⟨Nat.le_of_ble_eq_true rfl, Nat.le_of_ble_eq_true rfl⟩ (Nat.le_of_ble_eq_true rfl) rfl dX4_row_4 ?_
  refine Rt.istore_n [(2, _), (0, _), (1, _)] dX4_row_7 (by decide) rfl ?_
  refine Rt.iload_n 0 dX4_row_8 rfl ?_
  refine Rt.if_ne 24 dX4_row_9 (by decide) (fun c1 => ?_) (fun c1 => ?_)
  · replace h := (if_neg c1).symm.trans h
    refine Rt.pick [1, 2, 0] rfl ?_
    exact wfX4_row_b24 X v1 q1.1 _ z h
  · replace h := (if_pos c1).symm.trans h
    refine Rt.aload_n 1 dX4_row_12 rfl ?_
    refine gfX4_237 ly17 dX4_row_13 ?_
    refine Rt.bipush 20 dX4_row_16 (by decide) ?_
    refine Rt.icmp_ne 24 dX4_row_18 (by decide) (fun c4 => ?_) (fun c4 => ?_)
    · replace h := (if_neg c4).symm.trans h
      refine Rt.pick [1, 2, 0] rfl ?_
      exact wfX4_row_b24 X v1 q1.1 _ z h
    · replace h := (if_pos c4).symm.trans h
      refine Rt.bipush (-6) dX4_row_21 (by decide) ?_
      refine Rt.istore_n [(2, _), (0, _), (1, _)] dX4_row_23 (by decide) rfl ?_
      refine Rt.pick [1, 2, 0] rfl ?_
      exact wfX4_row_b24 X v1 (-6 : Int32) _ z h
set_option maxRecDepth 100000 in
set_option maxHeartbeats 4000000 in
theorem mfX4_row (v1 : Int32) (σ : Sto) (z : Int32 × Sto) (h : fX4_row v1 σ = some z) : AM yX4_row cX4_row 3 (some .int) 1 22 [.ref 17, .int v1] σ (some (.int z.1)) z.2 := AM.int rfl (Nat.le_of_ble_eq_true rfl) (fun X => wfX4_row X v1 σ z h)
-- fX4_wrongBy
def fX4_wrongBy_b62 (v2 : Int32) (σ : Sto) : Option (Int32 × Sto) := (fX4_passesAll (1 : Int32) (0 : Int32) σ).bind fun q2 => some (v2, q2.2)
set_option maxRecDepth 100000 in
set_option maxHeartbeats 4000000 in
theorem wfX4_wrongBy_b62 (X : Scr) (v2 : Int32) (σ : Sto) (z : Int32 × Sto) (h : fX4_wrongBy_b62 v2 σ = some z) : Rt X RX4 cX4_wrongBy 4 (rmA 6 126) .ireturn 62 [(0, .ref 17), (2, .int v2)] [] σ (some (.int z.1)) z.2 := by
  unfold fX4_wrongBy_b62 at h
  refine Rt.aload_n 0 dX4_wrongBy_62 rfl ?_
  refine Rt.iconst 1 dX4_wrongBy_63 (by decide) ?_
  refine Rt.iconst 0 dX4_wrongBy_64 (by decide) ?_
  obtain ⟨q2, e2, h⟩ := bnd h
  refine Rt.cV0 (mfX4_passesAll (1 : Int32) (0 : Int32) _ q2 e2) lkX4_121 ly17 rfl rfl rfl ⟨Nat.le_of_ble_eq_true rfl, Nat.le_of_ble_eq_true rfl⟩ (Nat.le_of_ble_eq_true rfl) rfl dX4_wrongBy_65 ?_
  refine Rt.iload_n 1 dX4_wrongBy_68 rfl ?_
  obtain rfl := Option.some.inj h
  exact Rt.ret (v := some (.int v2)) dX4_wrongBy_69 rfl rfl rfl
def fX4_wrongBy_b55 (k16 : Int32 → Int32 → Sto → Option (Int32 × Sto)) (v3 : Int32) (s0 : Int32) (σ : Sto) : Option (Int32 × Sto) := k16 s0 (v3 + (1 : Int32)) σ
set_option maxRecDepth 100000 in
set_option maxHeartbeats 4000000 in
theorem wfX4_wrongBy_b55 (X : Scr) (k16 : Int32 → Int32 → Sto → Option (Int32 × Sto)) (hk16 : ∀ (v2 : Int32) (v3 : Int32) (σ : Sto) (z : Int32 × Sto), k16 v2 v3 σ = some z → Rt X RX4 cX4_wrongBy 4 (rmA 6 126) .ireturn 16 [(0, .ref 17), (2, .int v2), (3, .int v3)] [] σ (some (.int z.1)) z.2) (v3 : Int32) (s0 : Int32) (σ : Sto) (z : Int32 × Sto) (h : fX4_wrongBy_b55 k16 v3 s0 σ = some z) : Rt X RX4 cX4_wrongBy 4 (rmA 6 126) .ireturn 55 [(0, .ref 17), (3, .int v3)] [.int s0] σ (some (.int z.1)) z.2 := by
  unfold fX4_wrongBy_b55 at h
  refine Rt.istore_n [(2, _), (0, _), (3, _)] dX4_wrongBy_55 (by decide) rfl ?_
  refine Rt.iinc [(3, _), (2, _), (0, _)] (v3 + (1 : Int32)) 2 dX4_wrongBy_56 rfl rfl (by decide) rfl ?_
  refine Rt.goto 16 dX4_wrongBy_59 (by decide) ?_
  refine Rt.pick [2, 1, 0] rfl ?_
  exact hk16 s0 (v3 + (1 : Int32)) _ z h
def fX4_wrongBy_l16 : Nat → Int32 → Int32 → Sto → Option (Int32 × Sto)
  | 0, _, _, _ => none
  | n + 1, v2, v3, σ => if (σ 17 25) ≤ v3 then (fX4_wrongBy_b62 v2 σ) else (if 0 ≤ v2 then (fX4_wrongBy_b62 v2 σ) else ((fX4_strokes (σ 17 5) σ).bind fun q3 => if inb v3 20 = true then (if (q3.2 17 4) = (q3.2 29 (v3).toNatClampNeg) then (fX4_wrongBy_b55 (fun a0 a1 s => fX4_wrongBy_l16 n a0 a1 s) v3 (-9 : Int32) q3.2) else (fX4_wrongBy_b55 (fun a0 a1 s => fX4_wrongBy_l16 n a0 a1 s) v3 v3 q3.2)) else none))
set_option maxRecDepth 100000 in
set_option maxHeartbeats 4000000 in
theorem wfX4_wrongBy_l16 (X : Scr) : ∀ (n : Nat) (v2 : Int32) (v3 : Int32) (σ : Sto) (z : Int32 × Sto), fX4_wrongBy_l16 n v2 v3 σ = some z → Rt X RX4 cX4_wrongBy 4 (rmA 6 126) .ireturn 16 [(0, .ref 17), (2, .int v2), (3, .int v3)] [] σ (some (.int z.1)) z.2 := by
  intro n
  induction n with
  | zero =>
    intro v2 v3 σ z h
    rw [fX4_wrongBy_l16] at h
    cases h
  | succ n ih =>
    intro v2 v3 σ z h
    rw [fX4_wrongBy_l16] at h
    refine Rt.iload_n 2 dX4_wrongBy_16 rfl ?_
    refine Rt.aload_n 0 dX4_wrongBy_17 rfl ?_
    refine gfX4_237 ly17 dX4_wrongBy_18 ?_
    refine Rt.icmp_ge 62 dX4_wrongBy_21 (by decide) (fun c1 => ?_) (fun c1 => ?_)
    · replace h := (if_pos c1).symm.trans h
      refine Rt.pick [0, 1] rfl ?_
      exact wfX4_wrongBy_b62 X v2 _ z h
    · replace h := (if_neg c1).symm.trans h
      refine Rt.iload_n 1 dX4_wrongBy_24 rfl ?_
      refine Rt.if_ge 62 dX4_wrongBy_25 (by decide) (fun c2 => ?_) (fun c2 => ?_)
      · replace h := (if_pos c2).symm.trans h
        refine Rt.pick [0, 1] rfl ?_
        exact wfX4_wrongBy_b62 X v2 _ z h
      · replace h := (if_neg c2).symm.trans h
        refine Rt.aload_n 0 dX4_wrongBy_28 rfl ?_
        refine Rt.aload_n 0 dX4_wrongBy_29 rfl ?_
        refine gfX4_142 ly17 dX4_wrongBy_30 ?_
        obtain ⟨q3, e3, h⟩ := bnd h
        refine Rt.cV0 (mfX4_strokes (σ 17 5) _ q3 e3) lkX4_113 ly17 rfl rfl rfl ⟨Nat.le_of_ble_eq_true rfl, Nat.le_of_ble_eq_true rfl⟩ (Nat.le_of_ble_eq_true rfl) rfl dX4_wrongBy_33 ?_
        refine Rt.aload_n 0 dX4_wrongBy_36 rfl ?_
        refine gfX4_101 ly17 dX4_wrongBy_37 ?_
        refine Rt.aload_n 0 dX4_wrongBy_40 rfl ?_
        refine gfX4_43 ly17 dX4_wrongBy_41 ?_
        refine Rt.iload_n 2 dX4_wrongBy_44 rfl ?_
        obtain ⟨g3, h⟩ := gd h
        refine Rt.iald ly29 g3 dX4_wrongBy_45 ?_
        refine Rt.icmp_eq 53 dX4_wrongBy_46 (by decide) (fun c4 => ?_) (fun c4 => ?_)
        · replace h := (if_pos c4).symm.trans h
          refine Rt.bipush (-9) dX4_wrongBy_53 (by decide) ?_
          refine Rt.pick [0, 2] rfl ?_
          exact wfX4_wrongBy_b55 X (fun a0 a1 s => fX4_wrongBy_l16 n a0 a1 s) ih v3 (-9 : Int32) _ z h
        · replace h := (if_neg c4).symm.trans h
          refine Rt.iload_n 2 dX4_wrongBy_49 rfl ?_
          refine Rt.goto 55 dX4_wrongBy_50 (by decide) ?_
          refine Rt.pick [0, 2] rfl ?_
          exact wfX4_wrongBy_b55 X (fun a0 a1 s => fX4_wrongBy_l16 n a0 a1 s) ih v3 v3 _ z h
def fX4_wrongBy (v1 : Int32) (σ : Sto) : Option (Int32 × Sto) := (fX4_passesAll (1 : Int32) (1 : Int32) σ).bind fun q1 => fX4_wrongBy_l16 300 (-9 : Int32) (0 : Int32) (upS q1.2 17 3 v1)
set_option maxRecDepth 100000 in
set_option maxHeartbeats 4000000 in
theorem wfX4_wrongBy (X : Scr) (v1 : Int32) (σ : Sto) (z : Int32 × Sto) (h : fX4_wrongBy v1 σ = some z) : Rt X RX4 cX4_wrongBy 4 (rmA 6 126) .ireturn 0 [(0, .ref 17), (1, .int v1)] [] σ (some (.int z.1)) z.2 := by
  unfold fX4_wrongBy at h
  refine Rt.aload_n 0 dX4_wrongBy_0 rfl ?_
  refine Rt.iconst 1 dX4_wrongBy_1 (by decide) ?_
  refine Rt.iconst 1 dX4_wrongBy_2 (by decide) ?_
  obtain ⟨q1, e1, h⟩ := bnd h
  refine Rt.cV0 (mfX4_passesAll (1 : Int32) (1 : Int32) _ q1 e1) lkX4_121 ly17 rfl rfl rfl ⟨Nat.le_of_ble_eq_true rfl, Nat.le_of_ble_eq_true rfl⟩ (Nat.le_of_ble_eq_true rfl) rfl dX4_wrongBy_3 ?_
  refine Rt.aload_n 0 dX4_wrongBy_6 rfl ?_
  refine Rt.iload_n 1 dX4_wrongBy_7 rfl ?_
  refine pfX4_98 ly17 dX4_wrongBy_8 ?_
  refine Rt.bipush (-9) dX4_wrongBy_11 (by decide) ?_
  refine Rt.istore_n [(2, _), (0, _), (1, _)] dX4_wrongBy_13 (by decide) rfl ?_
  refine Rt.iconst 0 dX4_wrongBy_14 (by decide) ?_
  refine Rt.istore_n [(3, _), (2, _), (0, _), (1, _)] dX4_wrongBy_15 (by decide) rfl ?_
  refine Rt.pick [2, 1, 0] rfl ?_
  exact wfX4_wrongBy_l16 X 300 (-9 : Int32) (0 : Int32) _ z h
set_option maxRecDepth 100000 in
set_option maxHeartbeats 4000000 in
theorem mfX4_wrongBy (v1 : Int32) (σ : Sto) (z : Int32 × Sto) (h : fX4_wrongBy v1 σ = some z) : AM yX4_wrongBy cX4_wrongBy 4 (some .int) 6 126 [.ref 17, .int v1] σ (some (.int z.1)) z.2 := AM.int rfl (Nat.le_of_ble_eq_true rfl) (fun X => wfX4_wrongBy X v1 σ z h)
-- fX4_kinds
def fX4_kinds_b26 (k4 : Int32 → Int32 → Sto → Option (Int32 × Sto)) (v2 : Int32) (s0 : Int32) (s1 : Int32) (σ : Sto) : Option (Int32 × Sto) := k4 (s1 ||| s0) (v2 + (1 : Int32)) σ
set_option maxRecDepth 100000 in
set_option maxHeartbeats 4000000 in
theorem wfX4_kinds_b26 (X : Scr) (k4 : Int32 → Int32 → Sto → Option (Int32 × Sto)) (hk4 : ∀ (v1 : Int32) (v2 : Int32) (σ : Sto) (z : Int32 × Sto), k4 v1 v2 σ = some z → Rt X RX4 cX4_kinds 3 (rmA 7 149) .ireturn 4 [(0, .ref 17), (1, .int v1), (2, .int v2)] [] σ (some (.int z.1)) z.2) (v2 : Int32) (s0 : Int32) (s1 : Int32) (σ : Sto) (z : Int32 × Sto) (h : fX4_kinds_b26 k4 v2 s0 s1 σ = some z) : Rt X RX4 cX4_kinds 3 (rmA 7 149) .ireturn 26 [(0, .ref 17), (2, .int v2)] [.int s0, .int s1] σ (some (.int z.1)) z.2 := by
  unfold fX4_kinds_b26 at h
  refine Rt.ior dX4_kinds_26 ?_
  refine Rt.istore_n [(1, _), (0, _), (2, _)] dX4_kinds_27 (by decide) rfl ?_
  refine Rt.iinc [(2, _), (1, _), (0, _)] (v2 + (1 : Int32)) 2 dX4_kinds_28 rfl rfl (by decide) rfl ?_
  refine Rt.goto 4 dX4_kinds_31 (by decide) ?_
  refine Rt.pick [2, 1, 0] rfl ?_
  exact hk4 (s1 ||| s0) (v2 + (1 : Int32)) _ z h
def fX4_kinds_l4 : Nat → Int32 → Int32 → Sto → Option (Int32 × Sto)
  | 0, _, _, _ => none
  | n + 1, v1, v2, σ => if (6 : Int32) ≤ v2 then (some (v1, σ)) else ((fX4_wrongBy v2 σ).bind fun q1 => if 0 ≤ q1.1 then (fX4_kinds_b26 (fun a0 a1 s => fX4_kinds_l4 n a0 a1 s) v2 (0 : Int32) v1 q1.2) else (fX4_kinds_b26 (fun a0 a1 s => fX4_kinds_l4 n a0 a1 s) v2 (ishl5 (1 : Int32) v2) v1 q1.2))
set_option maxRecDepth 100000 in
set_option maxHeartbeats 4000000 in
theorem wfX4_kinds_l4 (X : Scr) : ∀ (n : Nat) (v1 : Int32) (v2 : Int32) (σ : Sto) (z : Int32 × Sto), fX4_kinds_l4 n v1 v2 σ = some z → Rt X RX4 cX4_kinds 3 (rmA 7 149) .ireturn 4 [(0, .ref 17), (1, .int v1), (2, .int v2)] [] σ (some (.int z.1)) z.2 := by
  intro n
  induction n with
  | zero =>
    intro v1 v2 σ z h
    rw [fX4_kinds_l4] at h
    cases h
  | succ n ih =>
    intro v1 v2 σ z h
    rw [fX4_kinds_l4] at h
    refine Rt.iload_n 2 dX4_kinds_4 rfl ?_
    refine Rt.bipush 6 dX4_kinds_5 (by decide) ?_
    refine Rt.icmp_ge 34 dX4_kinds_7 (by decide) (fun c1 => ?_) (fun c1 => ?_)
    · replace h := (if_pos c1).symm.trans h
      refine Rt.iload_n 1 dX4_kinds_34 rfl ?_
      obtain rfl := Option.some.inj h
      exact Rt.ret (v := some (.int v1)) dX4_kinds_35 rfl rfl rfl
    · replace h := (if_neg c1).symm.trans h
      refine Rt.iload_n 1 dX4_kinds_10 rfl ?_
      refine Rt.aload_n 0 dX4_kinds_11 rfl ?_
      refine Rt.iload_n 2 dX4_kinds_12 rfl ?_
      obtain ⟨q1, e1, h⟩ := bnd h
      refine Rt.cV (mfX4_wrongBy v2 _ q1 e1) lkX4_240 ly17 rfl rfl rfl ⟨Nat.le_of_ble_eq_true rfl, Nat.le_of_ble_eq_true rfl⟩ (Nat.le_of_ble_eq_true rfl) rfl dX4_kinds_13 ?_
      refine Rt.if_ge 25 dX4_kinds_16 (by decide) (fun c2 => ?_) (fun c2 => ?_)
      · replace h := (if_pos c2).symm.trans h
        refine Rt.iconst 0 dX4_kinds_25 (by decide) ?_
        refine Rt.pick [0, 2] rfl ?_
        exact wfX4_kinds_b26 X (fun a0 a1 s => fX4_kinds_l4 n a0 a1 s) ih v2 (0 : Int32) v1 _ z h
      · replace h := (if_neg c2).symm.trans h
        refine Rt.iconst 1 dX4_kinds_19 (by decide) ?_
        refine Rt.iload_n 2 dX4_kinds_20 rfl ?_
        refine Rt.shl dX4_kinds_21 ?_
        refine Rt.goto 26 dX4_kinds_22 (by decide) ?_
        refine Rt.pick [0, 2] rfl ?_
        exact wfX4_kinds_b26 X (fun a0 a1 s => fX4_kinds_l4 n a0 a1 s) ih v2 (ishl5 (1 : Int32) v2) v1 _ z h
def fX4_kinds (σ : Sto) : Option (Int32 × Sto) := fX4_kinds_l4 300 (0 : Int32) (0 : Int32) σ
set_option maxRecDepth 100000 in
set_option maxHeartbeats 4000000 in
theorem wfX4_kinds (X : Scr) (σ : Sto) (z : Int32 × Sto) (h : fX4_kinds σ = some z) : Rt X RX4 cX4_kinds 3 (rmA 7 149) .ireturn 0 [(0, .ref 17)] [] σ (some (.int z.1)) z.2 := by
  unfold fX4_kinds at h
  refine Rt.iconst 0 dX4_kinds_0 (by decide) ?_
  refine Rt.istore_n [(1, _), (0, _)] dX4_kinds_1 (by decide) rfl ?_
  refine Rt.iconst 0 dX4_kinds_2 (by decide) ?_
  refine Rt.istore_n [(2, _), (1, _), (0, _)] dX4_kinds_3 (by decide) rfl ?_
  refine Rt.pick [2, 1, 0] rfl ?_
  exact wfX4_kinds_l4 X 300 (0 : Int32) (0 : Int32) _ z h
set_option maxRecDepth 100000 in
set_option maxHeartbeats 4000000 in
theorem mfX4_kinds (σ : Sto) (z : Int32 × Sto) (h : fX4_kinds σ = some z) : AM yX4_kinds cX4_kinds 3 (some .int) 7 149 [.ref 17] σ (some (.int z.1)) z.2 := AM.int rfl (Nat.le_of_ble_eq_true rfl) (fun X => wfX4_kinds X σ z h)
-- fX4_judge
def fX4_judge (σ : Sto) : Option (Int32 × Sto) := (fX4_wrongBy (σ 17 3) σ).bind fun q1 => some (q1.1, (upS q1.2 17 25 (0 : Int32)))
set_option maxRecDepth 100000 in
set_option maxHeartbeats 4000000 in
theorem wfX4_judge (X : Scr) (σ : Sto) (z : Int32 × Sto) (h : fX4_judge σ = some z) : Rt X RX4 cX4_judge 2 (rmA 7 149) .ireturn 0 [(0, .ref 17)] [] σ (some (.int z.1)) z.2 := by
  unfold fX4_judge at h
  refine Rt.aload_n 0 dX4_judge_0 rfl ?_
  refine Rt.aload_n 0 dX4_judge_1 rfl ?_
  refine gfX4_98 ly17 dX4_judge_2 ?_
  obtain ⟨q1, e1, h⟩ := bnd h
  refine Rt.cV (mfX4_wrongBy (σ 17 3) _ q1 e1) lkX4_240 ly17 rfl rfl rfl ⟨Nat.le_of_ble_eq_true rfl, Nat.le_of_ble_eq_true rfl⟩ (Nat.le_of_ble_eq_true rfl) rfl dX4_judge_5 ?_
  refine Rt.istore_n [(1, _), (0, _)] dX4_judge_8 (by decide) rfl ?_
  refine Rt.aload_n 1 dX4_judge_9 rfl ?_
  refine Rt.iconst 0 dX4_judge_10 (by decide) ?_
  refine pfX4_237 ly17 dX4_judge_11 ?_
  refine Rt.iload_n 0 dX4_judge_14 rfl ?_
  obtain rfl := Option.some.inj h
  exact Rt.ret (v := some (.int q1.1)) dX4_judge_15 rfl rfl rfl
set_option maxRecDepth 100000 in
set_option maxHeartbeats 4000000 in
theorem mfX4_judge (σ : Sto) (z : Int32 × Sto) (h : fX4_judge σ = some z) : AM yX4_judge cX4_judge 2 (some .int) 7 149 [.ref 17] σ (some (.int z.1)) z.2 := AM.int rfl (Nat.le_of_ble_eq_true rfl) (fun X => wfX4_judge X σ z h)
-- fX4_evenings
def fX4_evenings_b87 (k50 : Int32 → Int32 → Int32 → Int32 → Int32 → Sto → Option (Int32 × Sto)) (v1 : Int32) (v2 : Int32) (v5 : Int32) (v6 : Int32) (v7 : Int32) (σ : Sto) : Option (Int32 × Sto) := (fX4_followBy v1 σ).bind fun q5 => (fX4_orElse q5.1 (40 : Int32) q5.2).bind fun q6 => k50 v1 v2 v5 (v6 + q6.1) (v7 + (1 : Int32)) q6.2
set_option maxRecDepth 100000 in
set_option maxHeartbeats 4000000 in
theorem wfX4_evenings_b87 (X : Scr) (k50 : Int32 → Int32 → Int32 → Int32 → Int32 → Sto → Option (Int32 × Sto)) (hk50 : ∀ (v1 : Int32) (v2 : Int32) (v5 : Int32) (v6 : Int32) (v7 : Int32) (σ : Sto) (z : Int32 × Sto), k50 v1 v2 v5 v6 v7 σ = some z → Rt X RX4 cX4_evenings 8 (rmA 7 149) .ireturn 50 [(0, .ref 17), (1, .int v1), (2, .int v2), (5, .int v5), (6, .int v6), (7, .int v7)] [] σ (some (.int z.1)) z.2) (v1 : Int32) (v2 : Int32) (v5 : Int32) (v6 : Int32) (v7 : Int32) (σ : Sto) (z : Int32 × Sto) (h : fX4_evenings_b87 k50 v1 v2 v5 v6 v7 σ = some z) : Rt X RX4 cX4_evenings 8 (rmA 7 149) .ireturn 87 [(0, .ref 17), (1, .int v1), (2, .int v2), (5, .int v5), (6, .int v6), (7, .int v7)] [] σ (some (.int z.1)) z.2 := by
  unfold fX4_evenings_b87 at h
  refine Rt.iload 4 dX4_evenings_87 rfl ?_
  refine Rt.aload_n 0 dX4_evenings_89 rfl ?_
  refine Rt.iload_n 1 dX4_evenings_90 rfl ?_
  obtain ⟨q5, e5, h⟩ := bnd h
  refine Rt.cV (mfX4_followBy v1 _ q5 e5) lkX4_179 ly17 rfl rfl rfl ⟨Nat.le_of_ble_eq_true rfl, Nat.le_of_ble_eq_true rfl⟩ (Nat.le_of_ble_eq_true rfl) rfl dX4_evenings_91 ?_
  refine Rt.bipush 40 dX4_evenings_94 (by decide) ?_
  obtain ⟨q6, e6, h⟩ := bnd h
  refine Rt.cS (mfX4_orElse q5.1 (40 : Int32) _ q6 e6) lkX4_188 rfl ⟨Nat.le_of_ble_eq_true rfl, Nat.le_of_ble_eq_true rfl⟩ (Nat.le_of_ble_eq_true rfl) rfl dX4_evenings_96 ?_
  refine Rt.iadd dX4_evenings_99 ?_
  refine Rt.istore [(6, _), (0, _), (1, _), (2, _), (5, _), (7, _)] dX4_evenings_100 (by decide) rfl ?_
  refine Rt.iinc [(7, _), (6, _), (0, _), (1, _), (2, _), (5, _)] (v7 + (1 : Int32)) 5 dX4_evenings_102 rfl rfl (by decide) rfl ?_
  refine Rt.goto 50 dX4_evenings_105 (by decide) ?_
  refine Rt.pick [2, 3, 4, 5, 1, 0] rfl ?_
  exact hk50 v1 v2 v5 (v6 + q6.1) (v7 + (1 : Int32)) _ z h
def fX4_evenings_l50 : Nat → Int32 → Int32 → Int32 → Int32 → Int32 → Sto → Option (Int32 × Sto)
  | 0, _, _, _, _, _, _ => none
  | n + 1, v1, v2, v5, v6, v7, σ => if v2 ≤ v7 then ((fX4_passesAll (2 : Int32) (0 : Int32) σ).bind fun q4 => some (v6, q4.2)) else (fX4_evenings_b87 (fun a0 a1 a2 a3 a4 s => fX4_evenings_l50 n a0 a1 a2 a3 a4 s) v1 v2 ((v5 * (1664525 : Int32)) + (1013904223 : Int32)) v6 v7 (upS (upS σ 17 4 (irm ((((v5 * (1664525 : Int32)) + (1013904223 : Int32)) &&& (2147483647 : Int32)) / (256 : Int32)) (24 : Int32))) 17 5 (0 : Int32)))
set_option maxRecDepth 100000 in
set_option maxHeartbeats 4000000 in
theorem wfX4_evenings_l50 (X : Scr) : ∀ (n : Nat) (v1 : Int32) (v2 : Int32) (v5 : Int32) (v6 : Int32) (v7 : Int32) (σ : Sto) (z : Int32 × Sto), fX4_evenings_l50 n v1 v2 v5 v6 v7 σ = some z → Rt X RX4 cX4_evenings 8 (rmA 7 149) .ireturn 50 [(0, .ref 17), (1, .int v1), (2, .int v2), (5, .int v5), (6, .int v6), (7, .int v7)] [] σ (some (.int z.1)) z.2 := by
  intro n
  induction n with
  | zero =>
    intro v1 v2 v5 v6 v7 σ z h
    rw [fX4_evenings_l50] at h
    cases h
  | succ n ih =>
    intro v1 v2 v5 v6 v7 σ z h
    rw [fX4_evenings_l50] at h
    refine Rt.iload 5 dX4_evenings_50 rfl ?_
    refine Rt.iload_n 2 dX4_evenings_52 rfl ?_
    refine Rt.icmp_ge 108 dX4_evenings_53 (by decide) (fun c3 => ?_) (fun c3 => ?_)
    · replace h := (if_pos c3).symm.trans h
      refine Rt.aload_n 0 dX4_evenings_108 rfl ?_
      refine Rt.iconst 2 dX4_evenings_109 (by decide) ?_
      refine Rt.iconst 0 dX4_evenings_110 (by decide) ?_
      obtain ⟨q4, e4, h⟩ := bnd h
      refine Rt.cV0 (mfX4_passesAll (2 : Int32) (0 : Int32) _ q4 e4) lkX4_121 ly17 rfl rfl rfl ⟨Nat.le_of_ble_eq_true rfl, Nat.le_of_ble_eq_true rfl⟩ (Nat.le_of_ble_eq_true rfl) rfl dX4_evenings_111 ?_
      refine Rt.iload 4 dX4_evenings_114 rfl ?_
      obtain rfl := Option.some.inj h
      exact Rt.ret (v := some (.int v6)) dX4_evenings_116 rfl rfl rfl
    · replace h := (if_neg c3).symm.trans h
      refine Rt.iload 3 dX4_evenings_56 rfl ?_
      refine Rt.ldc 1664525 cnX4_243 dX4_evenings_58 ?_
      refine Rt.imul dX4_evenings_60 ?_
      refine Rt.ldc 1013904223 cnX4_244 dX4_evenings_61 ?_
      refine Rt.iadd dX4_evenings_63 ?_
      refine Rt.istore [(5, _), (0, _), (1, _), (2, _), (6, _), (7, _)] dX4_evenings_64 (by decide) rfl ?_
      refine Rt.aload_n 1 dX4_evenings_66 rfl ?_
      refine Rt.iload 0 dX4_evenings_67 rfl ?_
      refine Rt.ldc 2147483647 cnX4_245 dX4_evenings_69 ?_
      refine Rt.iand dX4_evenings_71 ?_
      refine Rt.sipush 256 dX4_evenings_72 (by decide) ?_
      refine Rt.idiv dX4_evenings_75 (by decide) ?_
      refine Rt.bipush 24 dX4_evenings_76 (by decide) ?_
      refine Rt.rem dX4_evenings_78 (by decide) ?_
      refine pfX4_101 ly17 dX4_evenings_79 ?_
      refine Rt.aload_n 1 dX4_evenings_82 rfl ?_
      refine Rt.iconst 0 dX4_evenings_83 (by decide) ?_
      refine pfX4_142 ly17 dX4_evenings_84 ?_
      refine Rt.pick [1, 2, 3, 0, 4, 5] rfl ?_
      exact wfX4_evenings_b87 X (fun a0 a1 a2 a3 a4 s => fX4_evenings_l50 n a0 a1 a2 a3 a4 s) ih v1 v2 ((v5 * (1664525 : Int32)) + (1013904223 : Int32)) v6 v7 _ z h
def fX4_evenings_b21 (v1 : Int32) (v2 : Int32) (v3 : Int32) (s0 : Int32) (σ : Sto) : Option (Int32 × Sto) := if s0 = 0 then ((fX4_passesAll (2 : Int32) (1 : Int32) σ).bind fun q3 => fX4_evenings_l50 300 v1 v2 v3 (0 : Int32) (0 : Int32) q3.2) else ((fX4_no s0 σ).bind fun q7 => some (q7.1, q7.2))
set_option maxRecDepth 100000 in
set_option maxHeartbeats 4000000 in
theorem wfX4_evenings_b21 (X : Scr) (v1 : Int32) (v2 : Int32) (v3 : Int32) (s0 : Int32) (σ : Sto) (z : Int32 × Sto) (h : fX4_evenings_b21 v1 v2 v3 s0 σ = some z) : Rt X RX4 cX4_evenings 8 (rmA 7 149) .ireturn 21 [(0, .ref 17), (1, .int v1), (2, .int v2), (3, .int v3)] [.int s0] σ (some (.int z.1)) z.2 := by
  unfold fX4_evenings_b21 at h
  refine Rt.istore [(4, _), (0, _), (1, _), (2, _), (3, _)] dX4_evenings_21 (by decide) rfl ?_
  refine Rt.iload 0 dX4_evenings_23 rfl ?_
  refine Rt.if_eq 35 dX4_evenings_25 (by decide) (fun c2 => ?_) (fun c2 => ?_)
  · replace h := (if_pos c2).symm.trans h
    refine Rt.aload_n 1 dX4_evenings_35 rfl ?_
    refine Rt.iconst 2 dX4_evenings_36 (by decide) ?_
    refine Rt.iconst 1 dX4_evenings_37 (by decide) ?_
    obtain ⟨q3, e3, h⟩ := bnd h
    refine Rt.cV0 (mfX4_passesAll (2 : Int32) (1 : Int32) _ q3 e3) lkX4_121 ly17 rfl rfl rfl ⟨Nat.le_of_ble_eq_true rfl, Nat.le_of_ble_eq_true rfl⟩ (Nat.le_of_ble_eq_true rfl) rfl dX4_evenings_38 ?_
    refine Rt.iload_n 4 dX4_evenings_41 rfl ?_
    refine Rt.istore [(5, _), (4, _), (0, _), (1, _), (2, _), (3, _)] dX4_evenings_42 (by decide) rfl ?_
    refine Rt.iconst 0 dX4_evenings_44 (by decide) ?_
    refine Rt.istore [(6, _), (5, _), (4, _), (0, _), (1, _), (2, _), (3, _)] dX4_evenings_45 (by decide) rfl ?_
    refine Rt.iconst 0 dX4_evenings_47 (by decide) ?_
    refine Rt.istore [(7, _), (6, _), (5, _), (4, _), (0, _), (1, _), (2, _), (3, _)] dX4_evenings_48 (by decide) rfl ?_
    refine Rt.pick [4, 5, 6, 2, 1, 0] rfl ?_
    exact wfX4_evenings_l50 X 300 v1 v2 v3 (0 : Int32) (0 : Int32) _ z h
  · replace h := (if_neg c2).symm.trans h
    refine Rt.aload_n 1 dX4_evenings_28 rfl ?_
    refine Rt.iload 0 dX4_evenings_29 rfl ?_
    obtain ⟨q7, e7, h⟩ := bnd h
    refine Rt.cV (mfX4_no s0 _ q7 e7) lkX4_60 ly17 rfl rfl rfl ⟨Nat.le_of_ble_eq_true rfl, Nat.le_of_ble_eq_true rfl⟩ (Nat.le_of_ble_eq_true rfl) rfl dX4_evenings_31 ?_
    obtain rfl := Option.some.inj h
    exact Rt.ret (v := some (.int q7.1)) dX4_evenings_34 rfl rfl rfl
def fX4_evenings (v1 : Int32) (v2 : Int32) (v3 : Int32) (σ : Sto) : Option (Int32 × Sto) := (fX4_isIn v1 (0 : Int32) (5 : Int32) σ).bind fun q1 => if q1.1 = 0 then (fX4_evenings_b21 v1 v2 v3 (-2 : Int32) q1.2) else ((fX4_bound v2 (1 : Int32) (20 : Int32) q1.2).bind fun q2 => fX4_evenings_b21 v1 v2 v3 q2.1 q2.2)
set_option maxRecDepth 100000 in
set_option maxHeartbeats 4000000 in
theorem wfX4_evenings (X : Scr) (v1 : Int32) (v2 : Int32) (v3 : Int32) (σ : Sto) (z : Int32 × Sto) (h : fX4_evenings v1 v2 v3 σ = some z) : Rt X RX4 cX4_evenings 8 (rmA 7 149) .ireturn 0 [(0, .ref 17), (1, .int v1), (2, .int v2), (3, .int v3)] [] σ (some (.int z.1)) z.2 := by
  unfold fX4_evenings at h
  refine Rt.iload_n 1 dX4_evenings_0 rfl ?_
  refine Rt.iconst 0 dX4_evenings_1 (by decide) ?_
  refine Rt.iconst 5 dX4_evenings_2 (by decide) ?_
  obtain ⟨q1, e1, h⟩ := bnd h
  refine Rt.cS (mfX4_isIn v1 (0 : Int32) (5 : Int32) _ q1 e1) lkX4_71 rfl ⟨Nat.le_of_ble_eq_true rfl, Nat.le_of_ble_eq_true rfl⟩ (Nat.le_of_ble_eq_true rfl) rfl dX4_evenings_3 ?_
  refine Rt.if_ne 14 dX4_evenings_6 (by decide) (fun c1 => ?_) (fun c1 => ?_)
  · replace h := (if_neg c1).symm.trans h
    refine Rt.iload_n 2 dX4_evenings_14 rfl ?_
    refine Rt.iconst 1 dX4_evenings_15 (by decide) ?_
    refine Rt.bipush 20 dX4_evenings_16 (by decide) ?_
    obtain ⟨q2, e2, h⟩ := bnd h
    refine Rt.cS (mfX4_bound v2 (1 : Int32) (20 : Int32) _ q2 e2) lkX4_52 rfl ⟨Nat.le_of_ble_eq_true rfl, Nat.le_of_ble_eq_true rfl⟩ (Nat.le_of_ble_eq_true rfl) rfl dX4_evenings_18 ?_
    exact wfX4_evenings_b21 X v1 v2 v3 q2.1 _ z h
  · replace h := (if_pos c1).symm.trans h
    refine Rt.bipush (-2) dX4_evenings_9 (by decide) ?_
    refine Rt.goto 21 dX4_evenings_11 (by decide) ?_
    exact wfX4_evenings_b21 X v1 v2 v3 (-2 : Int32) _ z h
set_option maxRecDepth 100000 in
set_option maxHeartbeats 4000000 in
theorem mfX4_evenings (v1 : Int32) (v2 : Int32) (v3 : Int32) (σ : Sto) (z : Int32 × Sto) (h : fX4_evenings v1 v2 v3 σ = some z) : AM yX4_evenings cX4_evenings 8 (some .int) 7 149 [.ref 17, .int v1, .int v2, .int v3] σ (some (.int z.1)) z.2 := AM.int rfl (Nat.le_of_ble_eq_true rfl) (fun X => wfX4_evenings X v1 v2 v3 σ z h)
-- fX4_image
def fX4_image_b5 (σ : Sto) : Option (Int32 × Sto) := (fX4_passesAll (0 : Int32) (1 : Int32) σ).bind fun q1 => some ((q1.2 17 6), q1.2)
set_option maxRecDepth 100000 in
set_option maxHeartbeats 4000000 in
theorem wfX4_image_b5 (X : Scr) (σ : Sto) (z : Int32 × Sto) (h : fX4_image_b5 σ = some z) : Rt X RX4 cX4_image 1 (rmA 2 44) .ireturn 5 [(0, .ref 17)] [] σ (some (.int z.1)) z.2 := by
  unfold fX4_image_b5 at h
  refine Rt.aload_n 0 dX4_image_5 rfl ?_
  refine Rt.iconst 0 dX4_image_6 (by decide) ?_
  refine Rt.iconst 1 dX4_image_7 (by decide) ?_
  obtain ⟨q1, e1, h⟩ := bnd h
  refine Rt.cV0 (mfX4_passesAll (0 : Int32) (1 : Int32) _ q1 e1) lkX4_121 ly17 rfl rfl rfl ⟨Nat.le_of_ble_eq_true rfl, Nat.le_of_ble_eq_true rfl⟩ (Nat.le_of_ble_eq_true rfl) rfl dX4_image_8 ?_
  refine Rt.aload_n 0 dX4_image_11 rfl ?_
  refine gfX4_110 ly17 dX4_image_12 ?_
  obtain rfl := Option.some.inj h
  exact Rt.ret (v := some (.int (q1.2 17 6))) dX4_image_15 rfl rfl rfl
def fX4_image (σ : Sto) : Option (Int32 × Sto) := fX4_image_b5 (upS σ 17 15 (1 : Int32))
set_option maxRecDepth 100000 in
set_option maxHeartbeats 4000000 in
theorem wfX4_image (X : Scr) (σ : Sto) (z : Int32 × Sto) (h : fX4_image σ = some z) : Rt X RX4 cX4_image 1 (rmA 2 44) .ireturn 0 [(0, .ref 17)] [] σ (some (.int z.1)) z.2 := by
  unfold fX4_image at h
  refine Rt.aload_n 0 dX4_image_0 rfl ?_
  refine Rt.iconst 1 dX4_image_1 (by decide) ?_
  refine pfX4_145 ly17 (by decide) dX4_image_2 ?_
  exact wfX4_image_b5 X _ z h
set_option maxRecDepth 100000 in
set_option maxHeartbeats 4000000 in
theorem mfX4_image (σ : Sto) (z : Int32 × Sto) (h : fX4_image σ = some z) : AM yX4_image cX4_image 1 (some .int) 2 44 [.ref 17] σ (some (.int z.1)) z.2 := AM.int rfl (Nat.le_of_ble_eq_true rfl) (fun X => wfX4_image X σ z h)
-- fX4_on
def fX4_on (σ : Sto) : Option (Int32 × Sto) := if (σ 17 15) = 0 then ((fX4_no (-3 : Int32) σ).bind fun q2 => some (q2.1, q2.2)) else ((fX4_passesAll (0 : Int32) (0 : Int32) σ).bind fun q1 => some ((q1.2 17 6), q1.2))
set_option maxRecDepth 100000 in
set_option maxHeartbeats 4000000 in
theorem wfX4_on (X : Scr) (σ : Sto) (z : Int32 × Sto) (h : fX4_on σ = some z) : Rt X RX4 cX4_on 1 (rmA 2 44) .ireturn 0 [(0, .ref 17)] [] σ (some (.int z.1)) z.2 := by
  unfold fX4_on at h
  refine Rt.aload_n 0 dX4_on_0 rfl ?_
  refine gfX4_145 ly17 dX4_on_1 ?_
  refine Rt.if_ne 14 dX4_on_4 (by decide) (fun c1 => ?_) (fun c1 => ?_)
  · replace h := (if_neg c1).symm.trans h
    refine Rt.aload_n 0 dX4_on_14 rfl ?_
    refine Rt.iconst 0 dX4_on_15 (by decide) ?_
    refine Rt.iconst 0 dX4_on_16 (by decide) ?_
    obtain ⟨q1, e1, h⟩ := bnd h
    refine Rt.cV0 (mfX4_passesAll (0 : Int32) (0 : Int32) _ q1 e1) lkX4_121 ly17 rfl rfl rfl ⟨Nat.le_of_ble_eq_true rfl, Nat.le_of_ble_eq_true rfl⟩ (Nat.le_of_ble_eq_true rfl) rfl dX4_on_17 ?_
    refine Rt.aload_n 0 dX4_on_20 rfl ?_
    refine gfX4_110 ly17 dX4_on_21 ?_
    obtain rfl := Option.some.inj h
    exact Rt.ret (v := some (.int (q1.2 17 6))) dX4_on_24 rfl rfl rfl
  · replace h := (if_pos c1).symm.trans h
    refine Rt.aload_n 0 dX4_on_7 rfl ?_
    refine Rt.bipush (-3) dX4_on_8 (by decide) ?_
    obtain ⟨q2, e2, h⟩ := bnd h
    refine Rt.cV (mfX4_no (-3 : Int32) _ q2 e2) lkX4_60 ly17 rfl rfl rfl ⟨Nat.le_of_ble_eq_true rfl, Nat.le_of_ble_eq_true rfl⟩ (Nat.le_of_ble_eq_true rfl) rfl dX4_on_10 ?_
    obtain rfl := Option.some.inj h
    exact Rt.ret (v := some (.int q2.1)) dX4_on_13 rfl rfl rfl
set_option maxRecDepth 100000 in
set_option maxHeartbeats 4000000 in
theorem mfX4_on (σ : Sto) (z : Int32 × Sto) (h : fX4_on σ = some z) : AM yX4_on cX4_on 1 (some .int) 2 44 [.ref 17] σ (some (.int z.1)) z.2 := AM.int rfl (Nat.le_of_ble_eq_true rfl) (fun X => wfX4_on X σ z h)
-- fX4_count
def fX4_count_l92 : Nat → Int32 → Int32 → Sto → Option (Int32 × Sto)
  | 0, _, _, _ => none
  | n + 1, v2, v3, σ => if (24 : Int32) ≤ v3 then (some (v2, σ)) else (if inb v3 24 = true then (fX4_count_l92 n (v2 + (σ 19 (v3).toNatClampNeg)) (v3 + (1 : Int32)) σ) else none)
set_option maxRecDepth 100000 in
set_option maxHeartbeats 4000000 in
theorem wfX4_count_l92 (X : Scr) : ∀ (n : Nat) (v2 : Int32) (v3 : Int32) (σ : Sto) (z : Int32 × Sto), fX4_count_l92 n v2 v3 σ = some z → Rt X RX4 cX4_count 4 (rmA 1 22) .ireturn 92 [(0, .ref 17), (2, .int v2), (3, .int v3)] [] σ (some (.int z.1)) z.2 := by
  intro n
  induction n with
  | zero =>
    intro v2 v3 σ z h
    rw [fX4_count_l92] at h
    cases h
  | succ n ih =>
    intro v2 v3 σ z h
    rw [fX4_count_l92] at h
    refine Rt.iload_n 2 dX4_count_92 rfl ?_
    refine Rt.bipush 24 dX4_count_93 (by decide) ?_
    refine Rt.icmp_ge 113 dX4_count_95 (by decide) (fun c3 => ?_) (fun c3 => ?_)
    · replace h := (if_pos c3).symm.trans h
      refine Rt.iload_n 1 dX4_count_113 rfl ?_
      obtain rfl := Option.some.inj h
      exact Rt.ret (v := some (.int v2)) dX4_count_114 rfl rfl rfl
    · replace h := (if_neg c3).symm.trans h
      refine Rt.iload_n 1 dX4_count_98 rfl ?_
      refine Rt.aload_n 0 dX4_count_99 rfl ?_
      refine gfX4_13 ly17 dX4_count_100 ?_
      refine Rt.iload_n 2 dX4_count_103 rfl ?_
      obtain ⟨g4, h⟩ := gd h
      refine Rt.iald ly19 g4 dX4_count_104 ?_
      refine Rt.iadd dX4_count_105 ?_
      refine Rt.istore_n [(2, _), (0, _), (3, _)] dX4_count_106 (by decide) rfl ?_
      refine Rt.iinc [(3, _), (2, _), (0, _)] (v3 + (1 : Int32)) 2 dX4_count_107 rfl rfl (by decide) rfl ?_
      refine Rt.goto 92 dX4_count_110 (by decide) ?_
      refine Rt.pick [2, 1, 0] rfl ?_
      exact ih (v2 + (σ 19 (v3).toNatClampNeg)) (v3 + (1 : Int32)) _ z h
def fX4_count (v1 : Int32) (σ : Sto) : Option (Int32 × Sto) := (fX4_isIn v1 (11 : Int32) (16 : Int32) σ).bind fun q1 => if q1.1 = 0 then (if v1 = 0 then (some ((q1.2 17 6), q1.2)) else (if v1 = 1 then (some ((q1.2 17 5), q1.2)) else (if v1 = 2 then (fX4_count_l92 300 (0 : Int32) (0 : Int32) q1.2) else (if v1 = 3 then (if inb (v1 - (3 : Int32)) 4 = true then (some ((q1.2 20 ((v1 - (3 : Int32))).toNatClampNeg), q1.2)) else none) else (if v1 = 4 then (if inb (v1 - (3 : Int32)) 4 = true then (some ((q1.2 20 ((v1 - (3 : Int32))).toNatClampNeg), q1.2)) else none) else (if v1 = 5 then (if inb (v1 - (3 : Int32)) 4 = true then (some ((q1.2 20 ((v1 - (3 : Int32))).toNatClampNeg), q1.2)) else none) else (if v1 = 6 then (if inb (v1 - (3 : Int32)) 4 = true then (some ((q1.2 20 ((v1 - (3 : Int32))).toNatClampNeg), q1.2)) else none) else (if v1 = 7 then (some ((q1.2 17 23), q1.2)) else (if v1 = 8 then (some ((q1.2 17 25), q1.2)) else (if v1 = 9 then (some ((q1.2 17 11), q1.2)) else (some ((-9 : Int32), q1.2)))))))))))) else (if inb (v1 - (10 : Int32)) 7 = true then (some ((q1.2 18 ((v1 - (10 : Int32))).toNatClampNeg), q1.2)) else none)
set_option maxRecDepth 100000 in
set_option maxHeartbeats 4000000 in
theorem wfX4_count (X : Scr) (v1 : Int32) (σ : Sto) (z : Int32 × Sto) (h : fX4_count v1 σ = some z) : Rt X RX4 cX4_count 4 (rmA 1 22) .ireturn 0 [(0, .ref 17), (1, .int v1)] [] σ (some (.int z.1)) z.2 := by
  unfold fX4_count at h
  refine Rt.iload_n 1 dX4_count_0 rfl ?_
  refine Rt.bipush 11 dX4_count_1 (by decide) ?_
  refine Rt.bipush 16 dX4_count_3 (by decide) ?_
  obtain ⟨q1, e1, h⟩ := bnd h
  refine Rt.cS (mfX4_isIn v1 (11 : Int32) (16 : Int32) _ q1 e1) lkX4_71 rfl ⟨Nat.le_of_ble_eq_true rfl, Nat.le_of_ble_eq_true rfl⟩ (Nat.le_of_ble_eq_true rfl) rfl dX4_count_5 ?_
  refine Rt.if_eq 21 dX4_count_8 (by decide) (fun c1 => ?_) (fun c1 => ?_)
  · replace h := (if_pos c1).symm.trans h
    refine Rt.iconst 0 dX4_count_21 (by decide) ?_
    refine Rt.istore_n [(2, _), (0, _), (1, _)] dX4_count_22 (by decide) rfl ?_
    refine Rt.iload_n 2 dX4_count_23 rfl ?_
    by_cases sw2_0 : v1 = 0
    · replace h := (if_pos sw2_0).symm.trans h
      refine Rt.tsIn 80 dX4_count_24 (by rw [sw2_0] <;> decide) (by rw [sw2_0] <;> decide) (by rw [sw2_0] <;> rfl) (by decide) ?_
      refine Rt.aload_n 1 dX4_count_80 rfl ?_
      refine gfX4_110 ly17 dX4_count_81 ?_
      obtain rfl := Option.some.inj h
      exact Rt.ret (v := some (.int (q1.2 17 6))) dX4_count_84 rfl rfl rfl
    · replace h := (if_neg sw2_0).symm.trans h
      by_cases sw2_1 : v1 = 1
      · replace h := (if_pos sw2_1).symm.trans h
        refine Rt.tsIn 85 dX4_count_24 (by rw [sw2_1] <;> decide) (by rw [sw2_1] <;> decide) (by rw [sw2_1] <;> rfl) (by decide) ?_
        refine Rt.aload_n 1 dX4_count_85 rfl ?_
        refine gfX4_142 ly17 dX4_count_86 ?_
        obtain rfl := Option.some.inj h
        exact Rt.ret (v := some (.int (q1.2 17 5))) dX4_count_89 rfl rfl rfl
      · replace h := (if_neg sw2_1).symm.trans h
        by_cases sw2_2 : v1 = 2
        · replace h := (if_pos sw2_2).symm.trans h
          refine Rt.tsIn 90 dX4_count_24 (by rw [sw2_2] <;> decide) (by rw [sw2_2] <;> decide) (by rw [sw2_2] <;> rfl) (by decide) ?_
          refine Rt.iconst 0 dX4_count_90 (by decide) ?_
          refine Rt.istore_n [(3, _), (2, _), (0, _), (1, _)] dX4_count_91 (by decide) rfl ?_
          refine Rt.pick [2, 1, 0] rfl ?_
          exact wfX4_count_l92 X 300 (0 : Int32) (0 : Int32) _ z h
        · replace h := (if_neg sw2_2).symm.trans h
          by_cases sw2_3 : v1 = 3
          · replace h := (if_pos sw2_3).symm.trans h
            refine Rt.tsIn 115 dX4_count_24 (by rw [sw2_3] <;> decide) (by rw [sw2_3] <;> decide) (by rw [sw2_3] <;> rfl) (by decide) ?_
            refine Rt.aload_n 1 dX4_count_115 rfl ?_
            refine gfX4_16 ly17 dX4_count_116 ?_
            refine Rt.iload_n 2 dX4_count_119 rfl ?_
            refine Rt.iconst 3 dX4_count_120 (by decide) ?_
            refine Rt.isub dX4_count_121 ?_
            obtain ⟨g5, h⟩ := gd h
            refine Rt.iald ly20 g5 dX4_count_122 ?_
            obtain rfl := Option.some.inj h
            exact Rt.ret (v := some (.int (q1.2 20 ((v1 - (3 : Int32))).toNatClampNeg))) dX4_count_123 rfl rfl rfl
          · replace h := (if_neg sw2_3).symm.trans h
            by_cases sw2_4 : v1 = 4
            · replace h := (if_pos sw2_4).symm.trans h
              refine Rt.tsIn 115 dX4_count_24 (by rw [sw2_4] <;> decide) (by rw [sw2_4] <;> decide) (by rw [sw2_4] <;> rfl) (by decide) ?_
              refine Rt.aload_n 1 dX4_count_115 rfl ?_
              refine gfX4_16 ly17 dX4_count_116 ?_
              refine Rt.iload_n 2 dX4_count_119 rfl ?_
              refine Rt.iconst 3 dX4_count_120 (by decide) ?_
              refine Rt.isub dX4_count_121 ?_
              obtain ⟨g6, h⟩ := gd h
              refine Rt.iald ly20 g6 dX4_count_122 ?_
              obtain rfl := Option.some.inj h
              exact Rt.ret (v := some (.int (q1.2 20 ((v1 - (3 : Int32))).toNatClampNeg))) dX4_count_123 rfl rfl rfl
            · replace h := (if_neg sw2_4).symm.trans h
              by_cases sw2_5 : v1 = 5
              · replace h := (if_pos sw2_5).symm.trans h
                refine Rt.tsIn 115 dX4_count_24 (by rw [sw2_5] <;> decide) (by rw [sw2_5] <;> decide) (by rw [sw2_5] <;> rfl) (by decide) ?_
                refine Rt.aload_n 1 dX4_count_115 rfl ?_
                refine gfX4_16 ly17 dX4_count_116 ?_
                refine Rt.iload_n 2 dX4_count_119 rfl ?_
                refine Rt.iconst 3 dX4_count_120 (by decide) ?_
                refine Rt.isub dX4_count_121 ?_
                obtain ⟨g7, h⟩ := gd h
                refine Rt.iald ly20 g7 dX4_count_122 ?_
                obtain rfl := Option.some.inj h
                exact Rt.ret (v := some (.int (q1.2 20 ((v1 - (3 : Int32))).toNatClampNeg))) dX4_count_123 rfl rfl rfl
              · replace h := (if_neg sw2_5).symm.trans h
                by_cases sw2_6 : v1 = 6
                · replace h := (if_pos sw2_6).symm.trans h
                  refine Rt.tsIn 115 dX4_count_24 (by rw [sw2_6] <;> decide) (by rw [sw2_6] <;> decide) (by rw [sw2_6] <;> rfl) (by decide) ?_
                  refine Rt.aload_n 1 dX4_count_115 rfl ?_
                  refine gfX4_16 ly17 dX4_count_116 ?_
                  refine Rt.iload_n 2 dX4_count_119 rfl ?_
                  refine Rt.iconst 3 dX4_count_120 (by decide) ?_
                  refine Rt.isub dX4_count_121 ?_
                  obtain ⟨g8, h⟩ := gd h
                  refine Rt.iald ly20 g8 dX4_count_122 ?_
                  obtain rfl := Option.some.inj h
                  exact Rt.ret (v := some (.int (q1.2 20 ((v1 - (3 : Int32))).toNatClampNeg))) dX4_count_123 rfl rfl rfl
                · replace h := (if_neg sw2_6).symm.trans h
                  by_cases sw2_7 : v1 = 7
                  · replace h := (if_pos sw2_7).symm.trans h
                    refine Rt.tsIn 124 dX4_count_24 (by rw [sw2_7] <;> decide) (by rw [sw2_7] <;> decide) (by rw [sw2_7] <;> rfl) (by decide) ?_
                    refine Rt.aload_n 1 dX4_count_124 rfl ?_
                    refine gfX4_208 ly17 dX4_count_125 ?_
                    obtain rfl := Option.some.inj h
                    exact Rt.ret (v := some (.int (q1.2 17 23))) dX4_count_128 rfl rfl rfl
                  · replace h := (if_neg sw2_7).symm.trans h
                    by_cases sw2_8 : v1 = 8
                    · replace h := (if_pos sw2_8).symm.trans h
                      refine Rt.tsIn 129 dX4_count_24 (by rw [sw2_8] <;> decide) (by rw [sw2_8] <;> decide) (by rw [sw2_8] <;> rfl) (by decide) ?_
                      refine Rt.aload_n 1 dX4_count_129 rfl ?_
                      refine gfX4_237 ly17 dX4_count_130 ?_
                      obtain rfl := Option.some.inj h
                      exact Rt.ret (v := some (.int (q1.2 17 25))) dX4_count_133 rfl rfl rfl
                    · replace h := (if_neg sw2_8).symm.trans h
                      by_cases sw2_9 : v1 = 9
                      · replace h := (if_pos sw2_9).symm.trans h
                        refine Rt.tsIn 134 dX4_count_24 (by rw [sw2_9] <;> decide) (by rw [sw2_9] <;> decide) (by rw [sw2_9] <;> rfl) (by decide) ?_
                        refine Rt.aload_n 1 dX4_count_134 rfl ?_
                        refine gfX4_56 ly17 dX4_count_135 ?_
                        obtain rfl := Option.some.inj h
                        exact Rt.ret (v := some (.int (q1.2 17 11))) dX4_count_138 rfl rfl rfl
                      · replace h := (if_neg sw2_9).symm.trans h
                        have hsw : (v1).toInt < 0 ∨ 9 < (v1).toInt := by
                          have w0 := nti 0 (k := 0) rfl sw2_0
                          have w1 := nti 1 (k := 1) rfl sw2_1
                          have w2 := nti 2 (k := 2) rfl sw2_2
                          have w3 := nti 3 (k := 3) rfl sw2_3
                          have w4 := nti 4 (k := 4) rfl sw2_4
                          have w5 := nti 5 (k := 5) rfl sw2_5
                          have w6 := nti 6 (k := 6) rfl sw2_6
                          have w7 := nti 7 (k := 7) rfl sw2_7
                          have w8 := nti 8 (k := 8) rfl sw2_8
                          have w9 := nti 9 (k := 9) rfl sw2_9
                          omega
                        refine Rt.tsOut 139 dX4_count_24 hsw (by decide) ?_
                        refine Rt.bipush (-9) dX4_count_139 (by decide) ?_
                        obtain rfl := Option.some.inj h
                        exact Rt.ret (v := some (.int (-9 : Int32))) dX4_count_141 rfl rfl rfl
  · replace h := (if_neg c1).symm.trans h
    refine Rt.aload_n 0 dX4_count_11 rfl ?_
    refine gfX4_7 ly17 dX4_count_12 ?_
    refine Rt.iload_n 1 dX4_count_15 rfl ?_
    refine Rt.bipush 10 dX4_count_16 (by decide) ?_
    refine Rt.isub dX4_count_18 ?_
    obtain ⟨g9, h⟩ := gd h
    refine Rt.iald ly18 g9 dX4_count_19 ?_
    obtain rfl := Option.some.inj h
    exact Rt.ret (v := some (.int (q1.2 18 ((v1 - (10 : Int32))).toNatClampNeg))) dX4_count_20 rfl rfl rfl
set_option maxRecDepth 100000 in
set_option maxHeartbeats 4000000 in
theorem mfX4_count (v1 : Int32) (σ : Sto) (z : Int32 × Sto) (h : fX4_count v1 σ = some z) : AM yX4_count cX4_count 4 (some .int) 1 22 [.ref 17, .int v1] σ (some (.int z.1)) z.2 := AM.int rfl (Nat.le_of_ble_eq_true rfl) (fun X => wfX4_count X v1 σ z h)
