-- fX3_commonDivisor
def fX3_commonDivisor_l9 : Nat → Int64 → Int64 → Int32 → Sto → Option (Int64 × Sto)
  | 0, _, _, _, _ => none
  | n + 1, v4, v6, v8, σ => if (200 : Int32) ≤ v8 then (some (v4, σ)) else (if (lg_cmp v6 (0 : Int64)) = 0 then (some (v4, σ)) else (if ¬ v6 = 0 then (fX3_commonDivisor_l9 n v6 (lrm v4 v6) (v8 + (1 : Int32)) σ) else none))
set_option maxRecDepth 100000 in
set_option maxHeartbeats 4000000 in
theorem wfX3_commonDivisor_l9 (X : Scr) : ∀ (n : Nat) (v4 : Int64) (v6 : Int64) (v8 : Int32) (σ : Sto) (z : Int64 × Sto), fX3_commonDivisor_l9 n v4 v6 v8 σ = some z → Rt X RX3 cX3_commonDivisor 11 (rmA 0 0) .lreturn 9 [(4, .long v4), (6, .long v6), (8, .int v8)] [] σ (some (.long z.1)) z.2 := by
  intro n
  induction n with
  | zero =>
    intro v4 v6 v8 σ z h
    rw [fX3_commonDivisor_l9] at h
    cases h
  | succ n ih =>
    intro v4 v6 v8 σ z h
    rw [fX3_commonDivisor_l9] at h
    refine Rt.iload 2 dX3_commonDivisor_9 rfl ?_
    refine Rt.sipush 200 dX3_commonDivisor_11 (by decide) ?_
    refine Rt.icmp_ge 45 dX3_commonDivisor_14 (by decide) (fun c1 => ?_) (fun c1 => ?_)
    · replace h := (if_pos c1).symm.trans h
      refine Rt.lload 0 dX3_commonDivisor_45 rfl ?_
      obtain rfl := Option.some.inj h
      exact Rt.ret (v := some (.long v4)) dX3_commonDivisor_47 rfl rfl rfl
    · replace h := (if_neg c1).symm.trans h
      refine Rt.lload 1 dX3_commonDivisor_17 rfl ?_
      refine Rt.lconst 0 dX3_commonDivisor_19 (by decide) ?_
      refine Rt.lcmp dX3_commonDivisor_20 ?_
      refine Rt.if_eq 45 dX3_commonDivisor_21 (by decide) (fun c2 => ?_) (fun c2 => ?_)
      · replace h := (if_pos c2).symm.trans h
        refine Rt.lload 0 dX3_commonDivisor_45 rfl ?_
        obtain rfl := Option.some.inj h
        exact Rt.ret (v := some (.long v4)) dX3_commonDivisor_47 rfl rfl rfl
      · replace h := (if_neg c2).symm.trans h
        refine Rt.lload 0 dX3_commonDivisor_24 rfl ?_
        refine Rt.lload 1 dX3_commonDivisor_26 rfl ?_
        obtain ⟨g3, h⟩ := gd h
        refine Rt.lrem' dX3_commonDivisor_28 g3 ?_
        refine Rt.lstore [(9, _), (4, _), (6, _), (8, _)] dX3_commonDivisor_29 (by decide) rfl ?_
        refine Rt.lload 2 dX3_commonDivisor_31 rfl ?_
        refine Rt.lstore [(4, _), (9, _), (6, _), (8, _)] dX3_commonDivisor_33 (by decide) rfl ?_
        refine Rt.lload 1 dX3_commonDivisor_35 rfl ?_
        refine Rt.lstore [(6, _), (4, _), (9, _), (8, _)] dX3_commonDivisor_37 (by decide) rfl ?_
        refine Rt.iinc [(8, _), (6, _), (4, _), (9, _)] (v8 + (1 : Int32)) 3 dX3_commonDivisor_39 rfl rfl (by decide) rfl ?_
        refine Rt.goto 9 dX3_commonDivisor_42 (by decide) ?_
        refine Rt.pick [2, 1, 0] rfl ?_
        exact ih v6 (lrm v4 v6) (v8 + (1 : Int32)) _ z h
def fX3_commonDivisor (v0 : Int64) (v2 : Int64) (σ : Sto) : Option (Int64 × Sto) := fX3_commonDivisor_l9 300 v0 v2 (0 : Int32) σ
set_option maxRecDepth 100000 in
set_option maxHeartbeats 4000000 in
theorem wfX3_commonDivisor (X : Scr) (v0 : Int64) (v2 : Int64) (σ : Sto) (z : Int64 × Sto) (h : fX3_commonDivisor v0 v2 σ = some z) : Rt X RX3 cX3_commonDivisor 11 (rmA 0 0) .lreturn 0 [(0, .long v0), (2, .long v2)] [] σ (some (.long z.1)) z.2 := by
  unfold fX3_commonDivisor at h
  refine Rt.lload_n 0 dX3_commonDivisor_0 rfl ?_
  refine Rt.lstore [(4, _), (0, _), (2, _)] dX3_commonDivisor_1 (by decide) rfl ?_
  refine Rt.lload_n 2 dX3_commonDivisor_3 rfl ?_
  refine Rt.lstore [(6, _), (4, _), (0, _), (2, _)] dX3_commonDivisor_4 (by decide) rfl ?_
  refine Rt.iconst 0 dX3_commonDivisor_6 (by decide) ?_
  refine Rt.istore [(8, _), (6, _), (4, _), (0, _), (2, _)] dX3_commonDivisor_7 (by decide) rfl ?_
  refine Rt.pick [2, 1, 0] rfl ?_
  exact wfX3_commonDivisor_l9 X 300 v0 v2 (0 : Int32) _ z h
set_option maxRecDepth 100000 in
set_option maxHeartbeats 4000000 in
theorem mfX3_commonDivisor (v0 : Int64) (v2 : Int64) (σ : Sto) (z : Int64 × Sto) (h : fX3_commonDivisor v0 v2 σ = some z) : AM yX3_commonDivisor cX3_commonDivisor 11 (some .long) 0 0 [.long v0, .long v2] σ (some (.long z.1)) z.2 := AM.long rfl (Nat.le_of_ble_eq_true rfl) (fun X => wfX3_commonDivisor X v0 v2 σ z h)
-- fX3_partOfFraction
def fX3_partOfFraction_b17 (v5 : Int64) (s0 : Int64) (σ : Sto) : Option (Int64 × Sto) := if (lg_cmp v5 (0 : Int64)) = 0 then (some (s0, σ)) else (if ¬ v5 = 0 then (some ((s0 / v5), σ)) else none)
set_option maxRecDepth 100000 in
set_option maxHeartbeats 4000000 in
theorem wfX3_partOfFraction_b17 (X : Scr) (v5 : Int64) (s0 : Int64) (σ : Sto) (z : Int64 × Sto) (h : fX3_partOfFraction_b17 v5 s0 σ = some z) : Rt X RX3 cX3_partOfFraction 9 (rmA 1 30) .lreturn 17 [(5, .long v5)] [.long s0] σ (some (.long z.1)) z.2 := by
  unfold fX3_partOfFraction_b17 at h
  refine Rt.lstore [(7, _), (5, _)] dX3_partOfFraction_17 (by decide) rfl ?_
  refine Rt.lload 1 dX3_partOfFraction_19 rfl ?_
  refine Rt.lconst 0 dX3_partOfFraction_21 (by decide) ?_
  refine Rt.lcmp dX3_partOfFraction_22 ?_
  refine Rt.if_ne 31 dX3_partOfFraction_23 (by decide) (fun c2 => ?_) (fun c2 => ?_)
  · replace h := (if_neg c2).symm.trans h
    refine Rt.lload 0 dX3_partOfFraction_31 rfl ?_
    refine Rt.lload 1 dX3_partOfFraction_33 rfl ?_
    obtain ⟨g3, h⟩ := gd h
    refine Rt.ldiv dX3_partOfFraction_35 g3 ?_
    obtain rfl := Option.some.inj h
    exact Rt.ret (v := some (.long (s0 / v5))) dX3_partOfFraction_36 rfl rfl rfl
  · replace h := (if_pos c2).symm.trans h
    refine Rt.lload 0 dX3_partOfFraction_26 rfl ?_
    refine Rt.goto 36 dX3_partOfFraction_28 (by decide) ?_
    obtain rfl := Option.some.inj h
    exact Rt.ret (v := some (.long s0)) dX3_partOfFraction_36 rfl rfl rfl
def fX3_partOfFraction (v0 : Int64) (v2 : Int64) (v4 : Int32) (σ : Sto) : Option (Int64 × Sto) := (fX3_commonDivisor v0 v2 σ).bind fun q1 => if v4 = 0 then (fX3_partOfFraction_b17 q1.1 v0 q1.2) else (fX3_partOfFraction_b17 q1.1 v2 q1.2)
set_option maxRecDepth 100000 in
set_option maxHeartbeats 4000000 in
theorem wfX3_partOfFraction (X : Scr) (v0 : Int64) (v2 : Int64) (v4 : Int32) (σ : Sto) (z : Int64 × Sto) (h : fX3_partOfFraction v0 v2 v4 σ = some z) : Rt X RX3 cX3_partOfFraction 9 (rmA 1 30) .lreturn 0 [(0, .long v0), (2, .long v2), (4, .int v4)] [] σ (some (.long z.1)) z.2 := by
  unfold fX3_partOfFraction at h
  refine Rt.lload_n 0 dX3_partOfFraction_0 rfl ?_
  refine Rt.lload_n 1 dX3_partOfFraction_1 rfl ?_
  obtain ⟨q1, e1, h⟩ := bnd h
  refine Rt.cS (mfX3_commonDivisor v0 v2 _ q1 e1) lkX3_214 rfl ⟨Nat.le_of_ble_eq_true rfl, Nat.le_of_ble_eq_true rfl⟩ (Nat.le_of_ble_eq_true rfl) rfl dX3_partOfFraction_2 ?_
  refine Rt.lstore [(5, _), (0, _), (2, _), (4, _)] dX3_partOfFraction_5 (by decide) rfl ?_
  refine Rt.iload 3 dX3_partOfFraction_7 rfl ?_
  refine Rt.if_ne 16 dX3_partOfFraction_9 (by decide) (fun c1 => ?_) (fun c1 => ?_)
  · replace h := (if_neg c1).symm.trans h
    refine Rt.lload_n 2 dX3_partOfFraction_16 rfl ?_
    refine Rt.pick [0] rfl ?_
    exact wfX3_partOfFraction_b17 X q1.1 v2 _ z h
  · replace h := (if_pos c1).symm.trans h
    refine Rt.lload_n 1 dX3_partOfFraction_12 rfl ?_
    refine Rt.goto 17 dX3_partOfFraction_13 (by decide) ?_
    refine Rt.pick [0] rfl ?_
    exact wfX3_partOfFraction_b17 X q1.1 v0 _ z h
set_option maxRecDepth 100000 in
set_option maxHeartbeats 4000000 in
theorem mfX3_partOfFraction (v0 : Int64) (v2 : Int64) (v4 : Int32) (σ : Sto) (z : Int64 × Sto) (h : fX3_partOfFraction v0 v2 v4 σ = some z) : AM yX3_partOfFraction cX3_partOfFraction 9 (some .long) 1 30 [.long v0, .long v2, .int v4] σ (some (.long z.1)) z.2 := AM.long rfl (Nat.le_of_ble_eq_true rfl) (fun X => wfX3_partOfFraction X v0 v2 v4 σ z h)
-- fX3_mean
def fX3_mean_b17 (σ : Sto) : Option (Int64 × Sto) := (fX3_refuseLong (-2 : Int32) σ).bind fun q2 => some (q2.1, q2.2)
set_option maxRecDepth 100000 in
set_option maxHeartbeats 4000000 in
theorem wfX3_mean_b17 (X : Scr) (σ : Sto) (z : Int64 × Sto) (h : fX3_mean_b17 σ = some z) : Rt X RX3 cX3_mean 6 (rmA 4 91) .lreturn 17 [(0, .ref 0)] [] σ (some (.long z.1)) z.2 := by
  unfold fX3_mean_b17 at h
  refine Rt.aload_n 0 dX3_mean_17 rfl ?_
  refine Rt.bipush (-2) dX3_mean_18 (by decide) ?_
  obtain ⟨q2, e2, h⟩ := bnd h
  refine Rt.cV (mfX3_refuseLong (-2 : Int32) _ q2 e2) lkX3_137 ly0 rfl rfl rfl ⟨Nat.le_of_ble_eq_true rfl, Nat.le_of_ble_eq_true rfl⟩ (Nat.le_of_ble_eq_true rfl) rfl dX3_mean_20 ?_
  obtain rfl := Option.some.inj h
  exact Rt.ret (v := some (.long q2.1)) dX3_mean_23 rfl rfl rfl
def fX3_mean_b56 (k29 : Int32 → Int32 → Int64 → Int32 → Sto → Option (Int64 × Sto)) (v1 : Int32) (v2 : Int32) (v3 : Int64) (v5 : Int32) (σ : Sto) : Option (Int64 × Sto) := (fX0_followBy 5 v1 σ).bind fun q6 => k29 v1 v2 (v3 + (((mnI (40 : Int32) q6.1)).toInt64)) (v5 + (1 : Int32)) q6.2
set_option maxRecDepth 100000 in
set_option maxHeartbeats 4000000 in
theorem wfX3_mean_b56 (X : Scr) (k29 : Int32 → Int32 → Int64 → Int32 → Sto → Option (Int64 × Sto)) (hk29 : ∀ (v1 : Int32) (v2 : Int32) (v3 : Int64) (v5 : Int32) (σ : Sto) (z : Int64 × Sto), k29 v1 v2 v3 v5 σ = some z → Rt X RX3 cX3_mean 6 (rmA 4 91) .lreturn 29 [(0, .ref 0), (1, .int v1), (2, .int v2), (3, .long v3), (5, .int v5)] [] σ (some (.long z.1)) z.2) (v1 : Int32) (v2 : Int32) (v3 : Int64) (v5 : Int32) (σ : Sto) (z : Int64 × Sto) (h : fX3_mean_b56 k29 v1 v2 v3 v5 σ = some z) : Rt X RX3 cX3_mean 6 (rmA 4 91) .lreturn 56 [(0, .ref 0), (1, .int v1), (2, .int v2), (3, .long v3), (5, .int v5)] [] σ (some (.long z.1)) z.2 := by
  unfold fX3_mean_b56 at h
  refine Rt.lload_n 3 dX3_mean_56 rfl ?_
  refine Rt.bipush 40 dX3_mean_57 (by decide) ?_
  refine Rt.aload_n 0 dX3_mean_59 rfl ?_
  refine gfX3_19 ly0 dX3_mean_60 ?_
  refine Rt.iload_n 1 dX3_mean_63 rfl ?_
  obtain ⟨q6, e6, h⟩ := bnd h
  refine Rt.cVN (mfX0_followBy 5 bk5 v1 _ q6 e6) lkX3_134 bk5.1 rfl rfl rfl ⟨Nat.le_of_ble_eq_true rfl, Nat.le_of_ble_eq_true rfl⟩ (Nat.le_of_ble_eq_true rfl) rfl dX3_mean_64 ?_
  refine Rt.mmin mlX3_141 smMmin iniMath cdMmin (Nat.le_of_ble_eq_true rfl) (Nat.le_of_ble_eq_true rfl) dX3_mean_67 ?_
  refine Rt.i2l dX3_mean_70 ?_
  refine Rt.ladd dX3_mean_71 ?_
  refine Rt.lstore_n [(3, _), (0, _), (1, _), (2, _), (5, _)] dX3_mean_72 (by decide) rfl ?_
  refine Rt.iinc [(5, _), (3, _), (0, _), (1, _), (2, _)] (v5 + (1 : Int32)) 4 dX3_mean_73 rfl rfl (by decide) rfl ?_
  refine Rt.goto 29 dX3_mean_76 (by decide) ?_
  refine Rt.pick [2, 3, 4, 1, 0] rfl ?_
  exact hk29 v1 v2 (v3 + (((mnI (40 : Int32) q6.1)).toInt64)) (v5 + (1 : Int32)) _ z h
def fX3_mean_l29 : Nat → Int32 → Int32 → Int64 → Int32 → Sto → Option (Int64 × Sto)
  | 0, _, _, _, _, _ => none
  | n + 1, v1, v2, v3, v5, σ => if (24 : Int32) ≤ v5 then ((fX3_partOfFraction v3 (24 : Int64) v2 σ).bind fun q4 => some (q4.1, q4.2)) else ((fX0_take 5 1 σ).bind fun q5 => fX3_mean_b56 (fun a0 a1 a2 a3 s => fX3_mean_l29 n a0 a1 a2 a3 s) v1 v2 v3 v5 (upS q5.2 5 2 v5))
set_option maxRecDepth 100000 in
set_option maxHeartbeats 4000000 in
theorem wfX3_mean_l29 (X : Scr) : ∀ (n : Nat) (v1 : Int32) (v2 : Int32) (v3 : Int64) (v5 : Int32) (σ : Sto) (z : Int64 × Sto), fX3_mean_l29 n v1 v2 v3 v5 σ = some z → Rt X RX3 cX3_mean 6 (rmA 4 91) .lreturn 29 [(0, .ref 0), (1, .int v1), (2, .int v2), (3, .long v3), (5, .int v5)] [] σ (some (.long z.1)) z.2 := by
  intro n
  induction n with
  | zero =>
    intro v1 v2 v3 v5 σ z h
    rw [fX3_mean_l29] at h
    cases h
  | succ n ih =>
    intro v1 v2 v3 v5 σ z h
    rw [fX3_mean_l29] at h
    refine Rt.iload 4 dX3_mean_29 rfl ?_
    refine Rt.bipush 24 dX3_mean_31 (by decide) ?_
    refine Rt.icmp_ge 79 dX3_mean_33 (by decide) (fun c3 => ?_) (fun c3 => ?_)
    · replace h := (if_pos c3).symm.trans h
      refine Rt.lload_n 3 dX3_mean_79 rfl ?_
      refine Rt.ldc2 24 clX3_146 dX3_mean_80 ?_
      refine Rt.iload_n 2 dX3_mean_83 rfl ?_
      obtain ⟨q4, e4, h⟩ := bnd h
      refine Rt.cS (mfX3_partOfFraction v3 (24 : Int64) v2 _ q4 e4) lkX3_148 rfl ⟨Nat.le_of_ble_eq_true rfl, Nat.le_of_ble_eq_true rfl⟩ (Nat.le_of_ble_eq_true rfl) rfl dX3_mean_84 ?_
      obtain rfl := Option.some.inj h
      exact Rt.ret (v := some (.long q4.1)) dX3_mean_87 rfl rfl rfl
    · replace h := (if_neg c3).symm.trans h
      refine Rt.aload_n 0 dX3_mean_36 rfl ?_
      refine gfX3_19 ly0 dX3_mean_37 ?_
      refine Rt.aload_n 0 dX3_mean_40 rfl ?_
      refine gfX3_10 ly0 dX3_mean_41 ?_
      obtain ⟨q5, e5, h⟩ := bnd h
      refine Rt.cVN0 (mfX0_take 5 bk5 1 bk1 _ q5 e5) lkX3_67 bk5.1 rfl rfl rfl ⟨Nat.le_of_ble_eq_true rfl, Nat.le_of_ble_eq_true rfl⟩ (Nat.le_of_ble_eq_true rfl) rfl dX3_mean_44 ?_
      refine Rt.aload_n 0 dX3_mean_47 rfl ?_
      refine gfX3_19 ly0 dX3_mean_48 ?_
      refine Rt.iload 4 dX3_mean_51 rfl ?_
      refine pfX3_82 bk5.1 dX3_mean_53 ?_
      exact wfX3_mean_b56 X (fun a0 a1 a2 a3 s => fX3_mean_l29 n a0 a1 a2 a3 s) ih v1 v2 v3 v5 _ z h
def fX3_mean (v1 : Int32) (v2 : Int32) (σ : Sto) : Option (Int64 × Sto) := (fX3_isNot v1 (6 : Int32) σ).bind fun q1 => if q1.1 = 0 then ((fX3_isNot v2 (2 : Int32) q1.2).bind fun q3 => if q3.1 = 0 then (fX3_mean_l29 300 v1 v2 (0 : Int64) (0 : Int32) q3.2) else (fX3_mean_b17 q3.2)) else (fX3_mean_b17 q1.2)
set_option maxRecDepth 100000 in
set_option maxHeartbeats 4000000 in
theorem wfX3_mean (X : Scr) (v1 : Int32) (v2 : Int32) (σ : Sto) (z : Int64 × Sto) (h : fX3_mean v1 v2 σ = some z) : Rt X RX3 cX3_mean 6 (rmA 4 91) .lreturn 0 [(0, .ref 0), (1, .int v1), (2, .int v2)] [] σ (some (.long z.1)) z.2 := by
  unfold fX3_mean at h
  refine Rt.iload_n 1 dX3_mean_0 rfl ?_
  refine Rt.bipush 6 dX3_mean_1 (by decide) ?_
  obtain ⟨q1, e1, h⟩ := bnd h
  refine Rt.cS (mfX3_isNot v1 (6 : Int32) _ q1 e1) lkX3_75 rfl ⟨Nat.le_of_ble_eq_true rfl, Nat.le_of_ble_eq_true rfl⟩ (Nat.le_of_ble_eq_true rfl) rfl dX3_mean_3 ?_
  refine Rt.if_ne 17 dX3_mean_6 (by decide) (fun c1 => ?_) (fun c1 => ?_)
  · replace h := (if_neg c1).symm.trans h
    refine Rt.pick [0] rfl ?_
    exact wfX3_mean_b17 X _ z h
  · replace h := (if_pos c1).symm.trans h
    refine Rt.iload_n 2 dX3_mean_9 rfl ?_
    refine Rt.iconst 2 dX3_mean_10 (by decide) ?_
    obtain ⟨q3, e3, h⟩ := bnd h
    refine Rt.cS (mfX3_isNot v2 (2 : Int32) _ q3 e3) lkX3_75 rfl ⟨Nat.le_of_ble_eq_true rfl, Nat.le_of_ble_eq_true rfl⟩ (Nat.le_of_ble_eq_true rfl) rfl dX3_mean_11 ?_
    refine Rt.if_eq 24 dX3_mean_14 (by decide) (fun c2 => ?_) (fun c2 => ?_)
    · replace h := (if_pos c2).symm.trans h
      refine Rt.lconst 0 dX3_mean_24 (by decide) ?_
      refine Rt.lstore_n [(3, _), (0, _), (1, _), (2, _)] dX3_mean_25 (by decide) rfl ?_
      refine Rt.iconst 0 dX3_mean_26 (by decide) ?_
      refine Rt.istore [(5, _), (3, _), (0, _), (1, _), (2, _)] dX3_mean_27 (by decide) rfl ?_
      refine Rt.pick [2, 3, 4, 1, 0] rfl ?_
      exact wfX3_mean_l29 X 300 v1 v2 (0 : Int64) (0 : Int32) _ z h
    · replace h := (if_neg c2).symm.trans h
      refine Rt.pick [0] rfl ?_
      exact wfX3_mean_b17 X _ z h
set_option maxRecDepth 100000 in
set_option maxHeartbeats 4000000 in
theorem mfX3_mean (v1 : Int32) (v2 : Int32) (σ : Sto) (z : Int64 × Sto) (h : fX3_mean v1 v2 σ = some z) : AM yX3_mean cX3_mean 6 (some .long) 4 91 [.ref 0, .int v1, .int v2] σ (some (.long z.1)) z.2 := AM.long rfl (Nat.le_of_ble_eq_true rfl) (fun X => wfX3_mean X v1 v2 σ z h)
-- fX3_hardest
def fX3_hardest_b77 (k23 : Int32 → Int32 → Int32 → Int32 → Sto → Option (Int32 × Sto)) (v1 : Int32) (v2 : Int32) (v3 : Int32) (v4 : Int32) (σ : Sto) : Option (Int32 × Sto) := k23 v1 v2 v3 (v4 + (1 : Int32)) σ
set_option maxRecDepth 100000 in
set_option maxHeartbeats 4000000 in
theorem wfX3_hardest_b77 (X : Scr) (k23 : Int32 → Int32 → Int32 → Int32 → Sto → Option (Int32 × Sto)) (hk23 : ∀ (v1 : Int32) (v2 : Int32) (v3 : Int32) (v4 : Int32) (σ : Sto) (z : Int32 × Sto), k23 v1 v2 v3 v4 σ = some z → Rt X RX3 cX3_hardest 6 (rmA 4 91) .ireturn 23 [(0, .ref 0), (1, .int v1), (2, .int v2), (3, .int v3), (4, .int v4)] [] σ (some (.int z.1)) z.2) (v1 : Int32) (v2 : Int32) (v3 : Int32) (v4 : Int32) (σ : Sto) (z : Int32 × Sto) (h : fX3_hardest_b77 k23 v1 v2 v3 v4 σ = some z) : Rt X RX3 cX3_hardest 6 (rmA 4 91) .ireturn 77 [(0, .ref 0), (1, .int v1), (2, .int v2), (3, .int v3), (4, .int v4)] [] σ (some (.int z.1)) z.2 := by
  unfold fX3_hardest_b77 at h
  refine Rt.iinc [(4, _), (0, _), (1, _), (2, _), (3, _)] (v4 + (1 : Int32)) 4 dX3_hardest_77 rfl rfl (by decide) rfl ?_
  refine Rt.goto 23 dX3_hardest_80 (by decide) ?_
  refine Rt.pick [1, 2, 3, 4, 0] rfl ?_
  exact hk23 v1 v2 v3 (v4 + (1 : Int32)) _ z h
def fX3_hardest_b50 (k23 : Int32 → Int32 → Int32 → Int32 → Sto → Option (Int32 × Sto)) (v1 : Int32) (v2 : Int32) (v3 : Int32) (v4 : Int32) (σ : Sto) : Option (Int32 × Sto) := (fX0_followBy 5 v1 σ).bind fun q3 => if (mnI (40 : Int32) q3.1) ≤ v3 then (fX3_hardest_b77 k23 v1 v2 v3 v4 q3.2) else (fX3_hardest_b77 k23 v1 v4 (mnI (40 : Int32) q3.1) v4 q3.2)
set_option maxRecDepth 100000 in
set_option maxHeartbeats 4000000 in
theorem wfX3_hardest_b50 (X : Scr) (k23 : Int32 → Int32 → Int32 → Int32 → Sto → Option (Int32 × Sto)) (hk23 : ∀ (v1 : Int32) (v2 : Int32) (v3 : Int32) (v4 : Int32) (σ : Sto) (z : Int32 × Sto), k23 v1 v2 v3 v4 σ = some z → Rt X RX3 cX3_hardest 6 (rmA 4 91) .ireturn 23 [(0, .ref 0), (1, .int v1), (2, .int v2), (3, .int v3), (4, .int v4)] [] σ (some (.int z.1)) z.2) (v1 : Int32) (v2 : Int32) (v3 : Int32) (v4 : Int32) (σ : Sto) (z : Int32 × Sto) (h : fX3_hardest_b50 k23 v1 v2 v3 v4 σ = some z) : Rt X RX3 cX3_hardest 6 (rmA 4 91) .ireturn 50 [(0, .ref 0), (1, .int v1), (2, .int v2), (3, .int v3), (4, .int v4)] [] σ (some (.int z.1)) z.2 := by
  unfold fX3_hardest_b50 at h
  refine Rt.bipush 40 dX3_hardest_50 (by decide) ?_
  refine Rt.aload_n 0 dX3_hardest_52 rfl ?_
  refine gfX3_19 ly0 dX3_hardest_53 ?_
  refine Rt.iload_n 1 dX3_hardest_56 rfl ?_
  obtain ⟨q3, e3, h⟩ := bnd h
  refine Rt.cVN (mfX0_followBy 5 bk5 v1 _ q3 e3) lkX3_134 bk5.1 rfl rfl rfl ⟨Nat.le_of_ble_eq_true rfl, Nat.le_of_ble_eq_true rfl⟩ (Nat.le_of_ble_eq_true rfl) rfl dX3_hardest_57 ?_
  refine Rt.mmin mlX3_141 smMmin iniMath cdMmin (Nat.le_of_ble_eq_true rfl) (Nat.le_of_ble_eq_true rfl) dX3_hardest_60 ?_
  refine Rt.istore [(5, _), (0, _), (1, _), (2, _), (3, _), (4, _)] dX3_hardest_63 (by decide) rfl ?_
  refine Rt.iload 0 dX3_hardest_65 rfl ?_
  refine Rt.iload_n 4 dX3_hardest_67 rfl ?_
  refine Rt.icmp_le 77 dX3_hardest_68 (by decide) (fun c3 => ?_) (fun c3 => ?_)
  · replace h := (if_pos c3).symm.trans h
    refine Rt.pick [1, 2, 3, 4, 5] rfl ?_
    exact wfX3_hardest_b77 X k23 hk23 v1 v2 v3 v4 _ z h
  · replace h := (if_neg c3).symm.trans h
    refine Rt.iload 0 dX3_hardest_71 rfl ?_
    refine Rt.istore_n [(3, _), (5, _), (0, _), (1, _), (2, _), (4, _)] dX3_hardest_73 (by decide) rfl ?_
    refine Rt.iload 5 dX3_hardest_74 rfl ?_
    refine Rt.istore_n [(2, _), (3, _), (5, _), (0, _), (1, _), (4, _)] dX3_hardest_76 (by decide) rfl ?_
    refine Rt.pick [3, 4, 0, 1, 5] rfl ?_
    exact wfX3_hardest_b77 X k23 hk23 v1 v4 (mnI (40 : Int32) q3.1) v4 _ z h
def fX3_hardest_l23 : Nat → Int32 → Int32 → Int32 → Int32 → Sto → Option (Int32 × Sto)
  | 0, _, _, _, _, _ => none
  | n + 1, v1, v2, v3, v4, σ => if (24 : Int32) ≤ v4 then (some (v2, σ)) else ((fX0_take 5 1 σ).bind fun q2 => fX3_hardest_b50 (fun a0 a1 a2 a3 s => fX3_hardest_l23 n a0 a1 a2 a3 s) v1 v2 v3 v4 (upS q2.2 5 2 v4))
set_option maxRecDepth 100000 in
set_option maxHeartbeats 4000000 in
theorem wfX3_hardest_l23 (X : Scr) : ∀ (n : Nat) (v1 : Int32) (v2 : Int32) (v3 : Int32) (v4 : Int32) (σ : Sto) (z : Int32 × Sto), fX3_hardest_l23 n v1 v2 v3 v4 σ = some z → Rt X RX3 cX3_hardest 6 (rmA 4 91) .ireturn 23 [(0, .ref 0), (1, .int v1), (2, .int v2), (3, .int v3), (4, .int v4)] [] σ (some (.int z.1)) z.2 := by
  intro n
  induction n with
  | zero =>
    intro v1 v2 v3 v4 σ z h
    rw [fX3_hardest_l23] at h
    cases h
  | succ n ih =>
    intro v1 v2 v3 v4 σ z h
    rw [fX3_hardest_l23] at h
    refine Rt.iload 4 dX3_hardest_23 rfl ?_
    refine Rt.bipush 24 dX3_hardest_25 (by decide) ?_
    refine Rt.icmp_ge 83 dX3_hardest_27 (by decide) (fun c2 => ?_) (fun c2 => ?_)
    · replace h := (if_pos c2).symm.trans h
      refine Rt.iload_n 2 dX3_hardest_83 rfl ?_
      obtain rfl := Option.some.inj h
      exact Rt.ret (v := some (.int v2)) dX3_hardest_84 rfl rfl rfl
    · replace h := (if_neg c2).symm.trans h
      refine Rt.aload_n 0 dX3_hardest_30 rfl ?_
      refine gfX3_19 ly0 dX3_hardest_31 ?_
      refine Rt.aload_n 0 dX3_hardest_34 rfl ?_
      refine gfX3_10 ly0 dX3_hardest_35 ?_
      obtain ⟨q2, e2, h⟩ := bnd h
      refine Rt.cVN0 (mfX0_take 5 bk5 1 bk1 _ q2 e2) lkX3_67 bk5.1 rfl rfl rfl ⟨Nat.le_of_ble_eq_true rfl, Nat.le_of_ble_eq_true rfl⟩ (Nat.le_of_ble_eq_true rfl) rfl dX3_hardest_38 ?_
      refine Rt.aload_n 0 dX3_hardest_41 rfl ?_
      refine gfX3_19 ly0 dX3_hardest_42 ?_
      refine Rt.iload 4 dX3_hardest_45 rfl ?_
      refine pfX3_82 bk5.1 dX3_hardest_47 ?_
      exact wfX3_hardest_b50 X (fun a0 a1 a2 a3 s => fX3_hardest_l23 n a0 a1 a2 a3 s) ih v1 v2 v3 v4 _ z h
def fX3_hardest (v1 : Int32) (σ : Sto) : Option (Int32 × Sto) := (fX3_isNot v1 (6 : Int32) σ).bind fun q1 => if q1.1 = 0 then (fX3_hardest_l23 300 v1 (0 : Int32) (-1 : Int32) (0 : Int32) q1.2) else ((fX3_refuse (-2 : Int32) q1.2).bind fun q4 => some (q4.1, q4.2))
set_option maxRecDepth 100000 in
set_option maxHeartbeats 4000000 in
theorem wfX3_hardest (X : Scr) (v1 : Int32) (σ : Sto) (z : Int32 × Sto) (h : fX3_hardest v1 σ = some z) : Rt X RX3 cX3_hardest 6 (rmA 4 91) .ireturn 0 [(0, .ref 0), (1, .int v1)] [] σ (some (.int z.1)) z.2 := by
  unfold fX3_hardest at h
  refine Rt.iload_n 1 dX3_hardest_0 rfl ?_
  refine Rt.bipush 6 dX3_hardest_1 (by decide) ?_
  obtain ⟨q1, e1, h⟩ := bnd h
  refine Rt.cS (mfX3_isNot v1 (6 : Int32) _ q1 e1) lkX3_75 rfl ⟨Nat.le_of_ble_eq_true rfl, Nat.le_of_ble_eq_true rfl⟩ (Nat.le_of_ble_eq_true rfl) rfl dX3_hardest_3 ?_
  refine Rt.if_eq 16 dX3_hardest_6 (by decide) (fun c1 => ?_) (fun c1 => ?_)
  · replace h := (if_pos c1).symm.trans h
    refine Rt.iconst 0 dX3_hardest_16 (by decide) ?_
    refine Rt.istore_n [(2, _), (0, _), (1, _)] dX3_hardest_17 (by decide) rfl ?_
    refine Rt.iconst (-1) dX3_hardest_18 (by decide) ?_
    refine Rt.istore_n [(3, _), (2, _), (0, _), (1, _)] dX3_hardest_19 (by decide) rfl ?_
    refine Rt.iconst 0 dX3_hardest_20 (by decide) ?_
    refine Rt.istore [(4, _), (3, _), (2, _), (0, _), (1, _)] dX3_hardest_21 (by decide) rfl ?_
    refine Rt.pick [3, 4, 2, 1, 0] rfl ?_
    exact wfX3_hardest_l23 X 300 v1 (0 : Int32) (-1 : Int32) (0 : Int32) _ z h
  · replace h := (if_neg c1).symm.trans h
    refine Rt.aload_n 0 dX3_hardest_9 rfl ?_
    refine Rt.bipush (-2) dX3_hardest_10 (by decide) ?_
    obtain ⟨q4, e4, h⟩ := bnd h
    refine Rt.cV (mfX3_refuse (-2 : Int32) _ q4 e4) lkX3_57 ly0 rfl rfl rfl ⟨Nat.le_of_ble_eq_true rfl, Nat.le_of_ble_eq_true rfl⟩ (Nat.le_of_ble_eq_true rfl) rfl dX3_hardest_12 ?_
    obtain rfl := Option.some.inj h
    exact Rt.ret (v := some (.int q4.1)) dX3_hardest_15 rfl rfl rfl
set_option maxRecDepth 100000 in
set_option maxHeartbeats 4000000 in
theorem mfX3_hardest (v1 : Int32) (σ : Sto) (z : Int32 × Sto) (h : fX3_hardest v1 σ = some z) : AM yX3_hardest cX3_hardest 6 (some .int) 4 91 [.ref 0, .int v1] σ (some (.int z.1)) z.2 := AM.int rfl (Nat.le_of_ble_eq_true rfl) (fun X => wfX3_hardest X v1 σ z h)
-- fX3_speak
def fX3_speak_b17 (σ : Sto) : Option (Int32 × Sto) := (fX3_refuse (-2 : Int32) σ).bind fun q2 => some (q2.1, q2.2)
set_option maxRecDepth 100000 in
set_option maxHeartbeats 4000000 in
theorem wfX3_speak_b17 (X : Scr) (σ : Sto) (z : Int32 × Sto) (h : fX3_speak_b17 σ = some z) : Rt X RX3 cX3_speak 8 (rmA 4 91) .ireturn 17 [(0, .ref 0)] [] σ (some (.int z.1)) z.2 := by
  unfold fX3_speak_b17 at h
  refine Rt.aload_n 0 dX3_speak_17 rfl ?_
  refine Rt.bipush (-2) dX3_speak_18 (by decide) ?_
  obtain ⟨q2, e2, h⟩ := bnd h
  refine Rt.cV (mfX3_refuse (-2 : Int32) _ q2 e2) lkX3_57 ly0 rfl rfl rfl ⟨Nat.le_of_ble_eq_true rfl, Nat.le_of_ble_eq_true rfl⟩ (Nat.le_of_ble_eq_true rfl) rfl dX3_speak_20 ?_
  obtain rfl := Option.some.inj h
  exact Rt.ret (v := some (.int q2.1)) dX3_speak_23 rfl rfl rfl
def fX3_speak_b107 (k33 : Int32 → Int32 → Int32 → Int32 → Int32 → Sto → Option (Int32 × Sto)) (k42 : Int32 → Int32 → Int32 → Int32 → Int32 → Int32 → Sto → Option (Int32 × Sto)) (v1 : Int32) (v2 : Int32) (v3 : Int32) (v4 : Int32) (v5 : Int32) (v6 : Int32) (σ : Sto) : Option (Int32 × Sto) := k42 v1 v2 v3 v4 v5 (v6 + (1 : Int32)) σ
set_option maxRecDepth 100000 in
set_option maxHeartbeats 4000000 in
theorem wfX3_speak_b107 (X : Scr) (k33 : Int32 → Int32 → Int32 → Int32 → Int32 → Sto → Option (Int32 × Sto)) (hk33 : ∀ (v1 : Int32) (v2 : Int32) (v3 : Int32) (v4 : Int32) (v5 : Int32) (σ : Sto) (z : Int32 × Sto), k33 v1 v2 v3 v4 v5 σ = some z → Rt X RX3 cX3_speak 8 (rmA 4 91) .ireturn 33 [(0, .ref 0), (1, .int v1), (2, .int v2), (3, .int v3), (4, .int v4), (5, .int v5)] [] σ (some (.int z.1)) z.2) (k42 : Int32 → Int32 → Int32 → Int32 → Int32 → Int32 → Sto → Option (Int32 × Sto)) (hk42 : ∀ (v1 : Int32) (v2 : Int32) (v3 : Int32) (v4 : Int32) (v5 : Int32) (v6 : Int32) (σ : Sto) (z : Int32 × Sto), k42 v1 v2 v3 v4 v5 v6 σ = some z → Rt X RX3 cX3_speak 8 (rmA 4 91) .ireturn 42 [(0, .ref 0), (1, .int v1), (2, .int v2), (3, .int v3), (4, .int v4), (5, .int v5), (6, .int v6)] [] σ (some (.int z.1)) z.2) (v1 : Int32) (v2 : Int32) (v3 : Int32) (v4 : Int32) (v5 : Int32) (v6 : Int32) (σ : Sto) (z : Int32 × Sto) (h : fX3_speak_b107 k33 k42 v1 v2 v3 v4 v5 v6 σ = some z) : Rt X RX3 cX3_speak 8 (rmA 4 91) .ireturn 107 [(0, .ref 0), (1, .int v1), (2, .int v2), (3, .int v3), (4, .int v4), (5, .int v5), (6, .int v6)] [] σ (some (.int z.1)) z.2 := by
  unfold fX3_speak_b107 at h
  refine Rt.iinc [(6, _), (0, _), (1, _), (2, _), (3, _), (4, _), (5, _)] (v6 + (1 : Int32)) 6 dX3_speak_107 rfl rfl (by decide) rfl ?_
  refine Rt.goto 42 dX3_speak_110 (by decide) ?_
  refine Rt.pick [1, 2, 3, 4, 5, 6, 0] rfl ?_
  exact hk42 v1 v2 v3 v4 v5 (v6 + (1 : Int32)) _ z h
def fX3_speak_b77 (k33 : Int32 → Int32 → Int32 → Int32 → Int32 → Sto → Option (Int32 × Sto)) (k42 : Int32 → Int32 → Int32 → Int32 → Int32 → Int32 → Sto → Option (Int32 × Sto)) (v1 : Int32) (v2 : Int32) (v3 : Int32) (v4 : Int32) (v5 : Int32) (v6 : Int32) (σ : Sto) : Option (Int32 × Sto) := (fX0_followBy 5 v1 σ).bind fun q5 => if v4 ≤ q5.1 then (fX3_speak_b107 k33 k42 v1 v2 v3 v4 v5 v6 q5.2) else (fX3_speak_b107 k33 k42 v1 v2 (((10 : Int32) * v5) + v6) q5.1 v5 v6 q5.2)
set_option maxRecDepth 100000 in
set_option maxHeartbeats 4000000 in
theorem wfX3_speak_b77 (X : Scr) (k33 : Int32 → Int32 → Int32 → Int32 → Int32 → Sto → Option (Int32 × Sto)) (hk33 : ∀ (v1 : Int32) (v2 : Int32) (v3 : Int32) (v4 : Int32) (v5 : Int32) (σ : Sto) (z : Int32 × Sto), k33 v1 v2 v3 v4 v5 σ = some z → Rt X RX3 cX3_speak 8 (rmA 4 91) .ireturn 33 [(0, .ref 0), (1, .int v1), (2, .int v2), (3, .int v3), (4, .int v4), (5, .int v5)] [] σ (some (.int z.1)) z.2) (k42 : Int32 → Int32 → Int32 → Int32 → Int32 → Int32 → Sto → Option (Int32 × Sto)) (hk42 : ∀ (v1 : Int32) (v2 : Int32) (v3 : Int32) (v4 : Int32) (v5 : Int32) (v6 : Int32) (σ : Sto) (z : Int32 × Sto), k42 v1 v2 v3 v4 v5 v6 σ = some z → Rt X RX3 cX3_speak 8 (rmA 4 91) .ireturn 42 [(0, .ref 0), (1, .int v1), (2, .int v2), (3, .int v3), (4, .int v4), (5, .int v5), (6, .int v6)] [] σ (some (.int z.1)) z.2) (v1 : Int32) (v2 : Int32) (v3 : Int32) (v4 : Int32) (v5 : Int32) (v6 : Int32) (σ : Sto) (z : Int32 × Sto) (h : fX3_speak_b77 k33 k42 v1 v2 v3 v4 v5 v6 σ = some z) : Rt X RX3 cX3_speak 8 (rmA 4 91) .ireturn 77 [(0, .ref 0), (1, .int v1), (2, .int v2), (3, .int v3), (4, .int v4), (5, .int v5), (6, .int v6)] [] σ (some (.int z.1)) z.2 := by
  unfold fX3_speak_b77 at h
  refine Rt.aload_n 0 dX3_speak_77 rfl ?_
  refine gfX3_19 ly0 dX3_speak_78 ?_
  refine Rt.iload_n 1 dX3_speak_81 rfl ?_
  obtain ⟨q5, e5, h⟩ := bnd h
  refine Rt.cVN (mfX0_followBy 5 bk5 v1 _ q5 e5) lkX3_134 bk5.1 rfl rfl rfl ⟨Nat.le_of_ble_eq_true rfl, Nat.le_of_ble_eq_true rfl⟩ (Nat.le_of_ble_eq_true rfl) rfl dX3_speak_82 ?_
  refine Rt.istore [(7, _), (0, _), (1, _), (2, _), (3, _), (4, _), (5, _), (6, _)] dX3_speak_85 (by decide) rfl ?_
  refine Rt.iload 0 dX3_speak_87 rfl ?_
  refine Rt.iload 5 dX3_speak_89 rfl ?_
  refine Rt.icmp_ge 107 dX3_speak_91 (by decide) (fun c6 => ?_) (fun c6 => ?_)
  · replace h := (if_pos c6).symm.trans h
    refine Rt.pick [1, 2, 3, 4, 5, 6, 7] rfl ?_
    exact wfX3_speak_b107 X k33 hk33 k42 hk42 v1 v2 v3 v4 v5 v6 _ z h
  · replace h := (if_neg c6).symm.trans h
    refine Rt.iload 0 dX3_speak_94 rfl ?_
    refine Rt.istore [(4, _), (7, _), (0, _), (1, _), (2, _), (3, _), (5, _), (6, _)] dX3_speak_96 (by decide) rfl ?_
    refine Rt.bipush 10 dX3_speak_98 (by decide) ?_
    refine Rt.iload 6 dX3_speak_100 rfl ?_
    refine Rt.imul dX3_speak_102 ?_
    refine Rt.iload 7 dX3_speak_103 rfl ?_
    refine Rt.iadd dX3_speak_105 ?_
    refine Rt.istore_n [(3, _), (4, _), (7, _), (0, _), (1, _), (2, _), (5, _), (6, _)] dX3_speak_106 (by decide) rfl ?_
    refine Rt.pick [3, 4, 5, 0, 1, 6, 7] rfl ?_
    exact wfX3_speak_b107 X k33 hk33 k42 hk42 v1 v2 (((10 : Int32) * v5) + v6) q5.1 v5 v6 _ z h
def fX3_speak_l42 (k33 : Int32 → Int32 → Int32 → Int32 → Int32 → Sto → Option (Int32 × Sto)) : Nat → Int32 → Int32 → Int32 → Int32 → Int32 → Int32 → Sto → Option (Int32 × Sto)
  | 0, _, _, _, _, _, _, _ => none
  | n + 1, v1, v2, v3, v4, v5, v6, σ => if (5 : Int32) < v6 then (k33 v1 v2 v3 v4 (v5 + (1 : Int32)) σ) else ((fX0_take 5 1 σ).bind fun q4 => fX3_speak_b77 k33 (fun a0 a1 a2 a3 a4 a5 s => fX3_speak_l42 k33 n a0 a1 a2 a3 a4 a5 s) v1 v2 v3 v4 v5 v6 (upS (upS q4.2 5 6 v5) 5 7 v6))
set_option maxRecDepth 100000 in
set_option maxHeartbeats 4000000 in
theorem wfX3_speak_l42 (X : Scr) (k33 : Int32 → Int32 → Int32 → Int32 → Int32 → Sto → Option (Int32 × Sto)) (hk33 : ∀ (v1 : Int32) (v2 : Int32) (v3 : Int32) (v4 : Int32) (v5 : Int32) (σ : Sto) (z : Int32 × Sto), k33 v1 v2 v3 v4 v5 σ = some z → Rt X RX3 cX3_speak 8 (rmA 4 91) .ireturn 33 [(0, .ref 0), (1, .int v1), (2, .int v2), (3, .int v3), (4, .int v4), (5, .int v5)] [] σ (some (.int z.1)) z.2) : ∀ (n : Nat) (v1 : Int32) (v2 : Int32) (v3 : Int32) (v4 : Int32) (v5 : Int32) (v6 : Int32) (σ : Sto) (z : Int32 × Sto), fX3_speak_l42 k33 n v1 v2 v3 v4 v5 v6 σ = some z → Rt X RX3 cX3_speak 8 (rmA 4 91) .ireturn 42 [(0, .ref 0), (1, .int v1), (2, .int v2), (3, .int v3), (4, .int v4), (5, .int v5), (6, .int v6)] [] σ (some (.int z.1)) z.2 := by
  intro n
  induction n with
  | zero =>
    intro v1 v2 v3 v4 v5 v6 σ z h
    rw [fX3_speak_l42] at h
    cases h
  | succ n ih =>
    intro v1 v2 v3 v4 v5 v6 σ z h
    rw [fX3_speak_l42] at h
    refine Rt.iload 6 dX3_speak_42 rfl ?_
    refine Rt.iconst 5 dX3_speak_44 (by decide) ?_
    refine Rt.icmp_gt 113 dX3_speak_45 (by decide) (fun c5 => ?_) (fun c5 => ?_)
    · replace h := (if_pos c5).symm.trans h
      refine Rt.iinc [(5, _), (0, _), (1, _), (2, _), (3, _), (4, _), (6, _)] (v5 + (1 : Int32)) 5 dX3_speak_113 rfl rfl (by decide) rfl ?_
      refine Rt.goto 33 dX3_speak_116 (by decide) ?_
      refine Rt.pick [1, 2, 3, 4, 5, 0] rfl ?_
      exact hk33 v1 v2 v3 v4 (v5 + (1 : Int32)) _ z h
    · replace h := (if_neg c5).symm.trans h
      refine Rt.aload_n 0 dX3_speak_48 rfl ?_
      refine gfX3_19 ly0 dX3_speak_49 ?_
      refine Rt.aload_n 0 dX3_speak_52 rfl ?_
      refine gfX3_10 ly0 dX3_speak_53 ?_
      obtain ⟨q4, e4, h⟩ := bnd h
      refine Rt.cVN0 (mfX0_take 5 bk5 1 bk1 _ q4 e4) lkX3_67 bk5.1 rfl rfl rfl ⟨Nat.le_of_ble_eq_true rfl, Nat.le_of_ble_eq_true rfl⟩ (Nat.le_of_ble_eq_true rfl) rfl dX3_speak_56 ?_
      refine Rt.aload_n 0 dX3_speak_59 rfl ?_
      refine gfX3_19 ly0 dX3_speak_60 ?_
      refine Rt.iload 5 dX3_speak_63 rfl ?_
      refine pfX3_152 bk5.1 dX3_speak_65 ?_
      refine Rt.aload_n 0 dX3_speak_68 rfl ?_
      refine gfX3_19 ly0 dX3_speak_69 ?_
      refine Rt.iload 6 dX3_speak_72 rfl ?_
      refine pfX3_123 bk5.1 dX3_speak_74 ?_
      exact wfX3_speak_b77 X k33 hk33 (fun a0 a1 a2 a3 a4 a5 s => fX3_speak_l42 k33 n a0 a1 a2 a3 a4 a5 s) ih v1 v2 v3 v4 v5 v6 _ z h
def fX3_speak_l33 : Nat → Int32 → Int32 → Int32 → Int32 → Int32 → Sto → Option (Int32 × Sto)
  | 0, _, _, _, _, _, _ => none
  | n + 1, v1, v2, v3, v4, v5, σ => if (3 : Int32) < v5 then (if v2 = 0 then (some (v3, σ)) else (some (v4, σ))) else (fX3_speak_l42 (fun a0 a1 a2 a3 a4 s => fX3_speak_l33 n a0 a1 a2 a3 a4 s) 300 v1 v2 v3 v4 v5 (2 : Int32) σ)
set_option maxRecDepth 100000 in
set_option maxHeartbeats 4000000 in
theorem wfX3_speak_l33 (X : Scr) : ∀ (n : Nat) (v1 : Int32) (v2 : Int32) (v3 : Int32) (v4 : Int32) (v5 : Int32) (σ : Sto) (z : Int32 × Sto), fX3_speak_l33 n v1 v2 v3 v4 v5 σ = some z → Rt X RX3 cX3_speak 8 (rmA 4 91) .ireturn 33 [(0, .ref 0), (1, .int v1), (2, .int v2), (3, .int v3), (4, .int v4), (5, .int v5)] [] σ (some (.int z.1)) z.2 := by
  intro n
  induction n with
  | zero =>
    intro v1 v2 v3 v4 v5 σ z h
    rw [fX3_speak_l33] at h
    cases h
  | succ n ih =>
    intro v1 v2 v3 v4 v5 σ z h
    rw [fX3_speak_l33] at h
    refine Rt.iload 5 dX3_speak_33 rfl ?_
    refine Rt.iconst 3 dX3_speak_35 (by decide) ?_
    refine Rt.icmp_gt 119 dX3_speak_36 (by decide) (fun c3 => ?_) (fun c3 => ?_)
    · replace h := (if_pos c3).symm.trans h
      refine Rt.iload_n 2 dX3_speak_119 rfl ?_
      refine Rt.if_ne 127 dX3_speak_120 (by decide) (fun c4 => ?_) (fun c4 => ?_)
      · replace h := (if_neg c4).symm.trans h
        refine Rt.iload 4 dX3_speak_127 rfl ?_
        obtain rfl := Option.some.inj h
        exact Rt.ret (v := some (.int v4)) dX3_speak_129 rfl rfl rfl
      · replace h := (if_pos c4).symm.trans h
        refine Rt.iload_n 3 dX3_speak_123 rfl ?_
        refine Rt.goto 129 dX3_speak_124 (by decide) ?_
        obtain rfl := Option.some.inj h
        exact Rt.ret (v := some (.int v3)) dX3_speak_129 rfl rfl rfl
    · replace h := (if_neg c3).symm.trans h
      refine Rt.iconst 2 dX3_speak_39 (by decide) ?_
      refine Rt.istore [(6, _), (0, _), (1, _), (2, _), (3, _), (4, _), (5, _)] dX3_speak_40 (by decide) rfl ?_
      refine Rt.pick [1, 2, 3, 4, 5, 6, 0] rfl ?_
      exact wfX3_speak_l42 X (fun a0 a1 a2 a3 a4 s => fX3_speak_l33 n a0 a1 a2 a3 a4 s) ih 300 v1 v2 v3 v4 v5 (2 : Int32) _ z h
def fX3_speak (v1 : Int32) (v2 : Int32) (σ : Sto) : Option (Int32 × Sto) := (fX3_isNot v1 (6 : Int32) σ).bind fun q1 => if q1.1 = 0 then ((fX3_isNot v2 (2 : Int32) q1.2).bind fun q3 => if q3.1 = 0 then (fX3_speak_l33 300 v1 v2 (0 : Int32) (42 : Int32) (1 : Int32) q3.2) else (fX3_speak_b17 q3.2)) else (fX3_speak_b17 q1.2)
set_option maxRecDepth 100000 in
set_option maxHeartbeats 4000000 in
theorem wfX3_speak (X : Scr) (v1 : Int32) (v2 : Int32) (σ : Sto) (z : Int32 × Sto) (h : fX3_speak v1 v2 σ = some z) : Rt X RX3 cX3_speak 8 (rmA 4 91) .ireturn 0 [(0, .ref 0), (1, .int v1), (2, .int v2)] [] σ (some (.int z.1)) z.2 := by
  unfold fX3_speak at h
  refine Rt.iload_n 1 dX3_speak_0 rfl ?_
  refine Rt.bipush 6 dX3_speak_1 (by decide) ?_
  obtain ⟨q1, e1, h⟩ := bnd h
  refine Rt.cS (mfX3_isNot v1 (6 : Int32) _ q1 e1) lkX3_75 rfl ⟨Nat.le_of_ble_eq_true rfl, Nat.le_of_ble_eq_true rfl⟩ (Nat.le_of_ble_eq_true rfl) rfl dX3_speak_3 ?_
  refine Rt.if_ne 17 dX3_speak_6 (by decide) (fun c1 => ?_) (fun c1 => ?_)
  · replace h := (if_neg c1).symm.trans h
    refine Rt.pick [0] rfl ?_
    exact wfX3_speak_b17 X _ z h
  · replace h := (if_pos c1).symm.trans h
    refine Rt.iload_n 2 dX3_speak_9 rfl ?_
    refine Rt.iconst 2 dX3_speak_10 (by decide) ?_
    obtain ⟨q3, e3, h⟩ := bnd h
    refine Rt.cS (mfX3_isNot v2 (2 : Int32) _ q3 e3) lkX3_75 rfl ⟨Nat.le_of_ble_eq_true rfl, Nat.le_of_ble_eq_true rfl⟩ (Nat.le_of_ble_eq_true rfl) rfl dX3_speak_11 ?_
    refine Rt.if_eq 24 dX3_speak_14 (by decide) (fun c2 => ?_) (fun c2 => ?_)
    · replace h := (if_pos c2).symm.trans h
      refine Rt.iconst 0 dX3_speak_24 (by decide) ?_
      refine Rt.istore_n [(3, _), (0, _), (1, _), (2, _)] dX3_speak_25 (by decide) rfl ?_
      refine Rt.bipush 42 dX3_speak_26 (by decide) ?_
      refine Rt.istore [(4, _), (3, _), (0, _), (1, _), (2, _)] dX3_speak_28 (by decide) rfl ?_
      refine Rt.iconst 1 dX3_speak_30 (by decide) ?_
      refine Rt.istore [(5, _), (4, _), (3, _), (0, _), (1, _), (2, _)] dX3_speak_31 (by decide) rfl ?_
      refine Rt.pick [3, 4, 5, 2, 1, 0] rfl ?_
      exact wfX3_speak_l33 X 300 v1 v2 (0 : Int32) (42 : Int32) (1 : Int32) _ z h
    · replace h := (if_neg c2).symm.trans h
      refine Rt.pick [0] rfl ?_
      exact wfX3_speak_b17 X _ z h
set_option maxRecDepth 100000 in
set_option maxHeartbeats 4000000 in
theorem mfX3_speak (v1 : Int32) (v2 : Int32) (σ : Sto) (z : Int32 × Sto) (h : fX3_speak v1 v2 σ = some z) : AM yX3_speak cX3_speak 8 (some .int) 4 91 [.ref 0, .int v1, .int v2] σ (some (.int z.1)) z.2 := AM.int rfl (Nat.le_of_ble_eq_true rfl) (fun X => wfX3_speak X v1 v2 σ z h)
-- fX1_add
def fX1_add_b46 (σ : Sto) : Option (Int32 × Sto) := some ((σ 11 2), σ)
set_option maxRecDepth 100000 in
set_option maxHeartbeats 4000000 in
theorem wfX1_add_b46 (X : Scr) (σ : Sto) (z : Int32 × Sto) (h : fX1_add_b46 σ = some z) : Rt X RX1 cX1_add 3 (rmA 0 0) .ireturn 46 [(0, .ref 11)] [] σ (some (.int z.1)) z.2 := by
  unfold fX1_add_b46 at h
  refine Rt.aload_n 0 dX1_add_46 rfl ?_
  refine gfX1_18 ly11 dX1_add_47 ?_
  obtain rfl := Option.some.inj h
  exact Rt.ret (v := some (.int (σ 11 2))) dX1_add_50 rfl rfl rfl
def fX1_add (v1 : Int32) (v2 : Int32) (σ : Sto) : Option (Int32 × Sto) := if (σ 11 2) < 0 then (fX1_add_b46 σ) else (if (8 : Int32) ≤ (σ 11 2) then (fX1_add_b46 σ) else (if inb (σ 11 2) 8 = true then (if inb ((upS σ 12 ((σ 11 2)).toNatClampNeg v1) 11 2) 8 = true then (fX1_add_b46 (upS (upS (upS σ 12 ((σ 11 2)).toNatClampNeg v1) 13 (((upS σ 12 ((σ 11 2)).toNatClampNeg v1) 11 2)).toNatClampNeg v2) 11 2 (((upS (upS σ 12 ((σ 11 2)).toNatClampNeg v1) 13 (((upS σ 12 ((σ 11 2)).toNatClampNeg v1) 11 2)).toNatClampNeg v2) 11 2) + (1 : Int32)))) else none) else none))
set_option maxRecDepth 100000 in
set_option maxHeartbeats 4000000 in
theorem wfX1_add (X : Scr) (v1 : Int32) (v2 : Int32) (σ : Sto) (z : Int32 × Sto) (h : fX1_add v1 v2 σ = some z) : Rt X RX1 cX1_add 3 (rmA 0 0) .ireturn 0 [(0, .ref 11), (1, .int v1), (2, .int v2)] [] σ (some (.int z.1)) z.2 := by
  unfold fX1_add at h
  refine Rt.aload_n 0 dX1_add_0 rfl ?_
  refine gfX1_18 ly11 dX1_add_1 ?_
  refine Rt.if_lt 46 dX1_add_4 (by decide) (fun c1 => ?_) (fun c1 => ?_)
  · replace h := (if_pos c1).symm.trans h
    refine Rt.pick [0] rfl ?_
    exact wfX1_add_b46 X _ z h
  · replace h := (if_neg c1).symm.trans h
    refine Rt.aload_n 0 dX1_add_7 rfl ?_
    refine gfX1_18 ly11 dX1_add_8 ?_
    refine Rt.bipush 8 dX1_add_11 (by decide) ?_
    refine Rt.icmp_ge 46 dX1_add_13 (by decide) (fun c2 => ?_) (fun c2 => ?_)
    · replace h := (if_pos c2).symm.trans h
      refine Rt.pick [0] rfl ?_
      exact wfX1_add_b46 X _ z h
    · replace h := (if_neg c2).symm.trans h
      refine Rt.aload_n 0 dX1_add_16 rfl ?_
      refine gfX1_9 ly11 dX1_add_17 ?_
      refine Rt.aload_n 0 dX1_add_20 rfl ?_
      refine gfX1_18 ly11 dX1_add_21 ?_
      refine Rt.iload_n 1 dX1_add_24 rfl ?_
      obtain ⟨g3, h⟩ := gd h
      refine Rt.iast ly12 g3 dX1_add_25 ?_
      refine Rt.aload_n 0 dX1_add_26 rfl ?_
      refine gfX1_15 ly11 dX1_add_27 ?_
      refine Rt.aload_n 0 dX1_add_30 rfl ?_
      refine gfX1_18 ly11 dX1_add_31 ?_
      refine Rt.iload_n 2 dX1_add_34 rfl ?_
      obtain ⟨g4, h⟩ := gd h
      refine Rt.iast ly13 g4 dX1_add_35 ?_
      refine Rt.aload_n 0 dX1_add_36 rfl ?_
      refine Rt.dup dX1_add_37 rfl ?_
      refine gfX1_18 ly11 dX1_add_38 ?_
      refine Rt.iconst 1 dX1_add_41 (by decide) ?_
      refine Rt.iadd dX1_add_42 ?_
      refine pfX1_18 ly11 dX1_add_43 ?_
      refine Rt.pick [0] rfl ?_
      exact wfX1_add_b46 X _ z h
set_option maxRecDepth 100000 in
set_option maxHeartbeats 4000000 in
theorem mfX1_add (v1 : Int32) (v2 : Int32) (σ : Sto) (z : Int32 × Sto) (h : fX1_add v1 v2 σ = some z) : AM yX1_add cX1_add 3 (some .int) 0 0 [.ref 11, .int v1, .int v2] σ (some (.int z.1)) z.2 := AM.int rfl (Nat.le_of_ble_eq_true rfl) (fun X => wfX1_add X v1 v2 σ z h)
-- fX3_saying
def fX3_saying (v1 : Int32) (v2 : Int32) (σ : Sto) : Option (Int32 × Sto) := (fX3_isNoCell v1 σ).bind fun q1 => if q1.1 = 0 then ((fX3_isNot v2 (9 : Int32) q1.2).bind fun q2 => if q2.1 = 0 then (if (q2.2 11 2) < (8 : Int32) then ((fX1_add v1 v2 q2.2).bind fun q3 => some (q3.1, q3.2)) else ((fX3_refuse (-6 : Int32) q2.2).bind fun q4 => some (q4.1, q4.2))) else ((fX3_refuse (-2 : Int32) q2.2).bind fun q5 => some (q5.1, q5.2))) else ((fX3_refuse (-1 : Int32) q1.2).bind fun q6 => some (q6.1, q6.2))
set_option maxRecDepth 100000 in
set_option maxHeartbeats 4000000 in
theorem wfX3_saying (X : Scr) (v1 : Int32) (v2 : Int32) (σ : Sto) (z : Int32 × Sto) (h : fX3_saying v1 v2 σ = some z) : Rt X RX3 cX3_saying 3 (rmA 1 22) .ireturn 0 [(0, .ref 0), (1, .int v1), (2, .int v2)] [] σ (some (.int z.1)) z.2 := by
  unfold fX3_saying at h
  refine Rt.iload_n 1 dX3_saying_0 rfl ?_
  obtain ⟨q1, e1, h⟩ := bnd h
  refine Rt.cS (mfX3_isNoCell v1 _ q1 e1) lkX3_85 rfl ⟨Nat.le_of_ble_eq_true rfl, Nat.le_of_ble_eq_true rfl⟩ (Nat.le_of_ble_eq_true rfl) rfl dX3_saying_1 ?_
  refine Rt.if_eq 13 dX3_saying_4 (by decide) (fun c1 => ?_) (fun c1 => ?_)
  · replace h := (if_pos c1).symm.trans h
    refine Rt.iload_n 2 dX3_saying_13 rfl ?_
    refine Rt.bipush 9 dX3_saying_14 (by decide) ?_
    obtain ⟨q2, e2, h⟩ := bnd h
    refine Rt.cS (mfX3_isNot v2 (9 : Int32) _ q2 e2) lkX3_75 rfl ⟨Nat.le_of_ble_eq_true rfl, Nat.le_of_ble_eq_true rfl⟩ (Nat.le_of_ble_eq_true rfl) rfl dX3_saying_16 ?_
    refine Rt.if_eq 29 dX3_saying_19 (by decide) (fun c2 => ?_) (fun c2 => ?_)
    · replace h := (if_pos c2).symm.trans h
      refine Rt.aload_n 0 dX3_saying_29 rfl ?_
      refine gfX3_35 ly0 dX3_saying_30 ?_
      refine gfX3_155 ly11 dX3_saying_33 ?_
      refine Rt.bipush 8 dX3_saying_36 (by decide) ?_
      refine Rt.icmp_lt 48 dX3_saying_38 (by decide) (fun c3 => ?_) (fun c3 => ?_)
      · replace h := (if_pos c3).symm.trans h
        refine Rt.aload_n 0 dX3_saying_48 rfl ?_
        refine gfX3_35 ly0 dX3_saying_49 ?_
        refine Rt.iload_n 1 dX3_saying_52 rfl ?_
        refine Rt.iload_n 2 dX3_saying_53 rfl ?_
        obtain ⟨q3, e3, h⟩ := bnd h
        refine Rt.cVN (mfX1_add v1 v2 _ q3 e3) lkX3_156 ly11 rfl rfl rfl ⟨Nat.le_of_ble_eq_true rfl, Nat.le_of_ble_eq_true rfl⟩ (Nat.le_of_ble_eq_true rfl) rfl dX3_saying_54 ?_
        obtain rfl := Option.some.inj h
        exact Rt.ret (v := some (.int q3.1)) dX3_saying_57 rfl rfl rfl
      · replace h := (if_neg c3).symm.trans h
        refine Rt.aload_n 0 dX3_saying_41 rfl ?_
        refine Rt.bipush (-6) dX3_saying_42 (by decide) ?_
        obtain ⟨q4, e4, h⟩ := bnd h
        refine Rt.cV (mfX3_refuse (-6 : Int32) _ q4 e4) lkX3_57 ly0 rfl rfl rfl ⟨Nat.le_of_ble_eq_true rfl, Nat.le_of_ble_eq_true rfl⟩ (Nat.le_of_ble_eq_true rfl) rfl dX3_saying_44 ?_
        obtain rfl := Option.some.inj h
        exact Rt.ret (v := some (.int q4.1)) dX3_saying_47 rfl rfl rfl
    · replace h := (if_neg c2).symm.trans h
      refine Rt.aload_n 0 dX3_saying_22 rfl ?_
      refine Rt.bipush (-2) dX3_saying_23 (by decide) ?_
      obtain ⟨q5, e5, h⟩ := bnd h
      refine Rt.cV (mfX3_refuse (-2 : Int32) _ q5 e5) lkX3_57 ly0 rfl rfl rfl ⟨Nat.le_of_ble_eq_true rfl, Nat.le_of_ble_eq_true rfl⟩ (Nat.le_of_ble_eq_true rfl) rfl dX3_saying_25 ?_
      obtain rfl := Option.some.inj h
      exact Rt.ret (v := some (.int q5.1)) dX3_saying_28 rfl rfl rfl
  · replace h := (if_neg c1).symm.trans h
    refine Rt.aload_n 0 dX3_saying_7 rfl ?_
    refine Rt.iconst (-1) dX3_saying_8 (by decide) ?_
    obtain ⟨q6, e6, h⟩ := bnd h
    refine Rt.cV (mfX3_refuse (-1 : Int32) _ q6 e6) lkX3_57 ly0 rfl rfl rfl ⟨Nat.le_of_ble_eq_true rfl, Nat.le_of_ble_eq_true rfl⟩ (Nat.le_of_ble_eq_true rfl) rfl dX3_saying_9 ?_
    obtain rfl := Option.some.inj h
    exact Rt.ret (v := some (.int q6.1)) dX3_saying_12 rfl rfl rfl
set_option maxRecDepth 100000 in
set_option maxHeartbeats 4000000 in
theorem mfX3_saying (v1 : Int32) (v2 : Int32) (σ : Sto) (z : Int32 × Sto) (h : fX3_saying v1 v2 σ = some z) : AM yX3_saying cX3_saying 3 (some .int) 1 22 [.ref 0, .int v1, .int v2] σ (some (.int z.1)) z.2 := AM.int rfl (Nat.le_of_ble_eq_true rfl) (fun X => wfX3_saying X v1 v2 σ z h)
-- fX3_hush
def fX3_hush (σ : Sto) : Option (Int32 × Sto) := some ((σ 11 2), (upS σ 11 2 (0 : Int32)))
set_option maxRecDepth 100000 in
set_option maxHeartbeats 4000000 in
theorem wfX3_hush (X : Scr) (σ : Sto) (z : Int32 × Sto) (h : fX3_hush σ = some z) : Rt X RX3 cX3_hush 2 (rmA 0 0) .ireturn 0 [(0, .ref 0)] [] σ (some (.int z.1)) z.2 := by
  unfold fX3_hush at h
  refine Rt.aload_n 0 dX3_hush_0 rfl ?_
  refine gfX3_35 ly0 dX3_hush_1 ?_
  refine gfX3_155 ly11 dX3_hush_4 ?_
  refine Rt.istore_n [(1, _), (0, _)] dX3_hush_7 (by decide) rfl ?_
  refine Rt.aload_n 1 dX3_hush_8 rfl ?_
  refine gfX3_35 ly0 dX3_hush_9 ?_
  refine Rt.iconst 0 dX3_hush_12 (by decide) ?_
  refine pfX3_155 ly11 dX3_hush_13 ?_
  refine Rt.iload_n 0 dX3_hush_16 rfl ?_
  obtain rfl := Option.some.inj h
  exact Rt.ret (v := some (.int (σ 11 2))) dX3_hush_17 rfl rfl rfl
set_option maxRecDepth 100000 in
set_option maxHeartbeats 4000000 in
theorem mfX3_hush (σ : Sto) (z : Int32 × Sto) (h : fX3_hush σ = some z) : AM yX3_hush cX3_hush 2 (some .int) 0 0 [.ref 0] σ (some (.int z.1)) z.2 := AM.int rfl (Nat.le_of_ble_eq_true rfl) (fun X => wfX3_hush X σ z h)
-- fX1_trueAt
def fX1_trueAt_b48 (k6 : Int32 → Int32 → Int32 → Int32 → Int32 → Sto → Option (Int32 × Sto)) (v1 : Int32) (v2 : Int32) (v3 : Int32) (v4 : Int32) (v5 : Int32) (σ : Sto) : Option (Int32 × Sto) := k6 v1 v2 v3 v4 (v5 + (1 : Int32)) σ
set_option maxRecDepth 100000 in
set_option maxHeartbeats 4000000 in
theorem wfX1_trueAt_b48 (X : Scr) (k6 : Int32 → Int32 → Int32 → Int32 → Int32 → Sto → Option (Int32 × Sto)) (hk6 : ∀ (v1 : Int32) (v2 : Int32) (v3 : Int32) (v4 : Int32) (v5 : Int32) (σ : Sto) (z : Int32 × Sto), k6 v1 v2 v3 v4 v5 σ = some z → Rt X RX1 cX1_trueAt 6 (rmA 2 47) .ireturn 6 [(0, .ref 11), (1, .int v1), (2, .int v2), (3, .int v3), (4, .int v4), (5, .int v5)] [] σ (some (.int z.1)) z.2) (v1 : Int32) (v2 : Int32) (v3 : Int32) (v4 : Int32) (v5 : Int32) (σ : Sto) (z : Int32 × Sto) (h : fX1_trueAt_b48 k6 v1 v2 v3 v4 v5 σ = some z) : Rt X RX1 cX1_trueAt 6 (rmA 2 47) .ireturn 48 [(0, .ref 11), (1, .int v1), (2, .int v2), (3, .int v3), (4, .int v4), (5, .int v5)] [] σ (some (.int z.1)) z.2 := by
  unfold fX1_trueAt_b48 at h
  refine Rt.iinc [(5, _), (0, _), (1, _), (2, _), (3, _), (4, _)] (v5 + (1 : Int32)) 5 dX1_trueAt_48 rfl rfl (by decide) rfl ?_
  refine Rt.goto 6 dX1_trueAt_51 (by decide) ?_
  refine Rt.pick [1, 2, 3, 4, 5, 0] rfl ?_
  exact hk6 v1 v2 v3 v4 (v5 + (1 : Int32)) _ z h
def fX1_trueAt_l6 : Nat → Int32 → Int32 → Int32 → Int32 → Int32 → Sto → Option (Int32 × Sto)
  | 0, _, _, _, _, _, _ => none
  | n + 1, v1, v2, v3, v4, v5, σ => if (σ 11 2) ≤ v5 then (some (v4, σ)) else (if (8 : Int32) ≤ v5 then (some (v4, σ)) else (if inb v5 8 = true then ((fX3_wordSaid (σ 12 (v5).toNatClampNeg) v1 v2 v3 σ).bind fun q1 => if inb v5 8 = true then (if q1.1 = (q1.2 13 (v5).toNatClampNeg) then (fX1_trueAt_b48 (fun a0 a1 a2 a3 a4 s => fX1_trueAt_l6 n a0 a1 a2 a3 a4 s) v1 v2 v3 (v4 + (1 : Int32)) v5 q1.2) else (fX1_trueAt_b48 (fun a0 a1 a2 a3 a4 s => fX1_trueAt_l6 n a0 a1 a2 a3 a4 s) v1 v2 v3 v4 v5 q1.2)) else none) else none))
set_option maxRecDepth 100000 in
set_option maxHeartbeats 4000000 in
theorem wfX1_trueAt_l6 (X : Scr) : ∀ (n : Nat) (v1 : Int32) (v2 : Int32) (v3 : Int32) (v4 : Int32) (v5 : Int32) (σ : Sto) (z : Int32 × Sto), fX1_trueAt_l6 n v1 v2 v3 v4 v5 σ = some z → Rt X RX1 cX1_trueAt 6 (rmA 2 47) .ireturn 6 [(0, .ref 11), (1, .int v1), (2, .int v2), (3, .int v3), (4, .int v4), (5, .int v5)] [] σ (some (.int z.1)) z.2 := by
  intro n
  induction n with
  | zero =>
    intro v1 v2 v3 v4 v5 σ z h
    rw [fX1_trueAt_l6] at h
    cases h
  | succ n ih =>
    intro v1 v2 v3 v4 v5 σ z h
    rw [fX1_trueAt_l6] at h
    refine Rt.iload 5 dX1_trueAt_6 rfl ?_
    refine Rt.aload_n 0 dX1_trueAt_8 rfl ?_
    refine gfX1_18 ly11 dX1_trueAt_9 ?_
    refine Rt.icmp_ge 54 dX1_trueAt_12 (by decide) (fun c1 => ?_) (fun c1 => ?_)
    · replace h := (if_pos c1).symm.trans h
      refine Rt.iload 4 dX1_trueAt_54 rfl ?_
      obtain rfl := Option.some.inj h
      exact Rt.ret (v := some (.int v4)) dX1_trueAt_56 rfl rfl rfl
    · replace h := (if_neg c1).symm.trans h
      refine Rt.iload 5 dX1_trueAt_15 rfl ?_
      refine Rt.bipush 8 dX1_trueAt_17 (by decide) ?_
      refine Rt.icmp_ge 54 dX1_trueAt_19 (by decide) (fun c2 => ?_) (fun c2 => ?_)
      · replace h := (if_pos c2).symm.trans h
        refine Rt.iload 4 dX1_trueAt_54 rfl ?_
        obtain rfl := Option.some.inj h
        exact Rt.ret (v := some (.int v4)) dX1_trueAt_56 rfl rfl rfl
      · replace h := (if_neg c2).symm.trans h
        refine Rt.aload_n 0 dX1_trueAt_22 rfl ?_
        refine gfX1_9 ly11 dX1_trueAt_23 ?_
        refine Rt.iload 5 dX1_trueAt_26 rfl ?_
        obtain ⟨g3, h⟩ := gd h
        refine Rt.iald ly12 g3 dX1_trueAt_28 ?_
        refine Rt.iload_n 1 dX1_trueAt_29 rfl ?_
        refine Rt.iload_n 2 dX1_trueAt_30 rfl ?_
        refine Rt.iload_n 3 dX1_trueAt_31 rfl ?_
        obtain ⟨q1, e1, h⟩ := bnd h
        refine Rt.cSN (mfX3_wordSaid (σ 12 (v5).toNatClampNeg) v1 v2 v3 _ q1 e1) lkX1_22 rfl ⟨Nat.le_of_ble_eq_true rfl, Nat.le_of_ble_eq_true rfl⟩ (Nat.le_of_ble_eq_true rfl) rfl dX1_trueAt_32 ?_
        refine Rt.aload_n 0 dX1_trueAt_35 rfl ?_
        refine gfX1_15 ly11 dX1_trueAt_36 ?_
        refine Rt.iload 5 dX1_trueAt_39 rfl ?_
        obtain ⟨g4, h⟩ := gd h
        refine Rt.iald ly13 g4 dX1_trueAt_41 ?_
        refine Rt.icmp_ne 48 dX1_trueAt_42 (by decide) (fun c5 => ?_) (fun c5 => ?_)
        · replace h := (if_neg c5).symm.trans h
          exact wfX1_trueAt_b48 X (fun a0 a1 a2 a3 a4 s => fX1_trueAt_l6 n a0 a1 a2 a3 a4 s) ih v1 v2 v3 v4 v5 _ z h
        · replace h := (if_pos c5).symm.trans h
          refine Rt.iinc [(4, _), (0, _), (1, _), (2, _), (3, _), (5, _)] (v4 + (1 : Int32)) 4 dX1_trueAt_45 rfl rfl (by decide) rfl ?_
          refine Rt.pick [1, 2, 3, 4, 0, 5] rfl ?_
          exact wfX1_trueAt_b48 X (fun a0 a1 a2 a3 a4 s => fX1_trueAt_l6 n a0 a1 a2 a3 a4 s) ih v1 v2 v3 (v4 + (1 : Int32)) v5 _ z h
def fX1_trueAt (v1 : Int32) (v2 : Int32) (v3 : Int32) (σ : Sto) : Option (Int32 × Sto) := fX1_trueAt_l6 300 v1 v2 v3 (0 : Int32) (0 : Int32) σ
set_option maxRecDepth 100000 in
set_option maxHeartbeats 4000000 in
theorem wfX1_trueAt (X : Scr) (v1 : Int32) (v2 : Int32) (v3 : Int32) (σ : Sto) (z : Int32 × Sto) (h : fX1_trueAt v1 v2 v3 σ = some z) : Rt X RX1 cX1_trueAt 6 (rmA 2 47) .ireturn 0 [(0, .ref 11), (1, .int v1), (2, .int v2), (3, .int v3)] [] σ (some (.int z.1)) z.2 := by
  unfold fX1_trueAt at h
  refine Rt.iconst 0 dX1_trueAt_0 (by decide) ?_
  refine Rt.istore [(4, _), (0, _), (1, _), (2, _), (3, _)] dX1_trueAt_1 (by decide) rfl ?_
  refine Rt.iconst 0 dX1_trueAt_3 (by decide) ?_
  refine Rt.istore [(5, _), (4, _), (0, _), (1, _), (2, _), (3, _)] dX1_trueAt_4 (by decide) rfl ?_
  refine Rt.pick [2, 3, 4, 5, 1, 0] rfl ?_
  exact wfX1_trueAt_l6 X 300 v1 v2 v3 (0 : Int32) (0 : Int32) _ z h
set_option maxRecDepth 100000 in
set_option maxHeartbeats 4000000 in
theorem mfX1_trueAt (v1 : Int32) (v2 : Int32) (v3 : Int32) (σ : Sto) (z : Int32 × Sto) (h : fX1_trueAt v1 v2 v3 σ = some z) : AM yX1_trueAt cX1_trueAt 6 (some .int) 2 47 [.ref 11, .int v1, .int v2, .int v3] σ (some (.int z.1)) z.2 := AM.int rfl (Nat.le_of_ble_eq_true rfl) (fun X => wfX1_trueAt X v1 v2 v3 σ z h)
-- fX1_cellsBy
def fX1_cellsBy_b34 (k5 : Int32 → Int32 → Int32 → Int32 → Sto → Option (Int32 × Sto)) (v1 : Int32) (v2 : Int32) (v3 : Int32) (v4 : Int32) (σ : Sto) : Option (Int32 × Sto) := k5 v1 v2 v3 (v4 + (1 : Int32)) σ
set_option maxRecDepth 100000 in
set_option maxHeartbeats 4000000 in
theorem wfX1_cellsBy_b34 (X : Scr) (k5 : Int32 → Int32 → Int32 → Int32 → Sto → Option (Int32 × Sto)) (hk5 : ∀ (v1 : Int32) (v2 : Int32) (v3 : Int32) (v4 : Int32) (σ : Sto) (z : Int32 × Sto), k5 v1 v2 v3 v4 σ = some z → Rt X RX1 cX1_cellsBy 5 (rmA 3 72) .ireturn 5 [(0, .ref 11), (1, .int v1), (2, .int v2), (3, .int v3), (4, .int v4)] [] σ (some (.int z.1)) z.2) (v1 : Int32) (v2 : Int32) (v3 : Int32) (v4 : Int32) (σ : Sto) (z : Int32 × Sto) (h : fX1_cellsBy_b34 k5 v1 v2 v3 v4 σ = some z) : Rt X RX1 cX1_cellsBy 5 (rmA 3 72) .ireturn 34 [(0, .ref 11), (1, .int v1), (2, .int v2), (3, .int v3), (4, .int v4)] [] σ (some (.int z.1)) z.2 := by
  unfold fX1_cellsBy_b34 at h
  refine Rt.iinc [(4, _), (0, _), (1, _), (2, _), (3, _)] (v4 + (1 : Int32)) 4 dX1_cellsBy_34 rfl rfl (by decide) rfl ?_
  refine Rt.goto 5 dX1_cellsBy_37 (by decide) ?_
  refine Rt.pick [1, 2, 3, 4, 0] rfl ?_
  exact hk5 v1 v2 v3 (v4 + (1 : Int32)) _ z h
def fX1_cellsBy_l5 : Nat → Int32 → Int32 → Int32 → Int32 → Sto → Option (Int32 × Sto)
  | 0, _, _, _, _, _ => none
  | n + 1, v1, v2, v3, v4, σ => if (24 : Int32) ≤ v4 then (some (v3, σ)) else ((fX1_trueAt v4 v1 v2 σ).bind fun q1 => if q1.1 = (q1.2 11 2) then (fX1_cellsBy_b34 (fun a0 a1 a2 a3 s => fX1_cellsBy_l5 n a0 a1 a2 a3 s) v1 v2 (v3 ||| (ishl5 (1 : Int32) v4)) v4 q1.2) else (fX1_cellsBy_b34 (fun a0 a1 a2 a3 s => fX1_cellsBy_l5 n a0 a1 a2 a3 s) v1 v2 v3 v4 q1.2))
set_option maxRecDepth 100000 in
set_option maxHeartbeats 4000000 in
theorem wfX1_cellsBy_l5 (X : Scr) : ∀ (n : Nat) (v1 : Int32) (v2 : Int32) (v3 : Int32) (v4 : Int32) (σ : Sto) (z : Int32 × Sto), fX1_cellsBy_l5 n v1 v2 v3 v4 σ = some z → Rt X RX1 cX1_cellsBy 5 (rmA 3 72) .ireturn 5 [(0, .ref 11), (1, .int v1), (2, .int v2), (3, .int v3), (4, .int v4)] [] σ (some (.int z.1)) z.2 := by
  intro n
  induction n with
  | zero =>
    intro v1 v2 v3 v4 σ z h
    rw [fX1_cellsBy_l5] at h
    cases h
  | succ n ih =>
    intro v1 v2 v3 v4 σ z h
    rw [fX1_cellsBy_l5] at h
    refine Rt.iload 4 dX1_cellsBy_5 rfl ?_
    refine Rt.bipush 24 dX1_cellsBy_7 (by decide) ?_
    refine Rt.icmp_ge 40 dX1_cellsBy_9 (by decide) (fun c1 => ?_) (fun c1 => ?_)
    · replace h := (if_pos c1).symm.trans h
      refine Rt.iload_n 3 dX1_cellsBy_40 rfl ?_
      obtain rfl := Option.some.inj h
      exact Rt.ret (v := some (.int v3)) dX1_cellsBy_41 rfl rfl rfl
    · replace h := (if_neg c1).symm.trans h
      refine Rt.aload_n 0 dX1_cellsBy_12 rfl ?_
      refine Rt.iload 4 dX1_cellsBy_13 rfl ?_
      refine Rt.iload_n 1 dX1_cellsBy_15 rfl ?_
      refine Rt.iload_n 2 dX1_cellsBy_16 rfl ?_
      obtain ⟨q1, e1, h⟩ := bnd h
      refine Rt.cV (mfX1_trueAt v4 v1 v2 _ q1 e1) lkX1_26 ly11 rfl rfl rfl ⟨Nat.le_of_ble_eq_true rfl, Nat.le_of_ble_eq_true rfl⟩ (Nat.le_of_ble_eq_true rfl) rfl dX1_cellsBy_17 ?_
      refine Rt.aload_n 0 dX1_cellsBy_20 rfl ?_
      refine gfX1_18 ly11 dX1_cellsBy_21 ?_
      refine Rt.icmp_ne 34 dX1_cellsBy_24 (by decide) (fun c2 => ?_) (fun c2 => ?_)
      · replace h := (if_neg c2).symm.trans h
        exact wfX1_cellsBy_b34 X (fun a0 a1 a2 a3 s => fX1_cellsBy_l5 n a0 a1 a2 a3 s) ih v1 v2 v3 v4 _ z h
      · replace h := (if_pos c2).symm.trans h
        refine Rt.iload_n 3 dX1_cellsBy_27 rfl ?_
        refine Rt.iconst 1 dX1_cellsBy_28 (by decide) ?_
        refine Rt.iload 4 dX1_cellsBy_29 rfl ?_
        refine Rt.shl dX1_cellsBy_31 ?_
        refine Rt.ior dX1_cellsBy_32 ?_
        refine Rt.istore_n [(3, _), (0, _), (1, _), (2, _), (4, _)] dX1_cellsBy_33 (by decide) rfl ?_
        refine Rt.pick [1, 2, 3, 0, 4] rfl ?_
        exact wfX1_cellsBy_b34 X (fun a0 a1 a2 a3 s => fX1_cellsBy_l5 n a0 a1 a2 a3 s) ih v1 v2 (v3 ||| (ishl5 (1 : Int32) v4)) v4 _ z h
def fX1_cellsBy (v1 : Int32) (v2 : Int32) (σ : Sto) : Option (Int32 × Sto) := fX1_cellsBy_l5 300 v1 v2 (0 : Int32) (0 : Int32) σ
set_option maxRecDepth 100000 in
set_option maxHeartbeats 4000000 in
theorem wfX1_cellsBy (X : Scr) (v1 : Int32) (v2 : Int32) (σ : Sto) (z : Int32 × Sto) (h : fX1_cellsBy v1 v2 σ = some z) : Rt X RX1 cX1_cellsBy 5 (rmA 3 72) .ireturn 0 [(0, .ref 11), (1, .int v1), (2, .int v2)] [] σ (some (.int z.1)) z.2 := by
  unfold fX1_cellsBy at h
  refine Rt.iconst 0 dX1_cellsBy_0 (by decide) ?_
  refine Rt.istore_n [(3, _), (0, _), (1, _), (2, _)] dX1_cellsBy_1 (by decide) rfl ?_
  refine Rt.iconst 0 dX1_cellsBy_2 (by decide) ?_
  refine Rt.istore [(4, _), (3, _), (0, _), (1, _), (2, _)] dX1_cellsBy_3 (by decide) rfl ?_
  refine Rt.pick [2, 3, 4, 1, 0] rfl ?_
  exact wfX1_cellsBy_l5 X 300 v1 v2 (0 : Int32) (0 : Int32) _ z h
set_option maxRecDepth 100000 in
set_option maxHeartbeats 4000000 in
theorem mfX1_cellsBy (v1 : Int32) (v2 : Int32) (σ : Sto) (z : Int32 × Sto) (h : fX1_cellsBy v1 v2 σ = some z) : AM yX1_cellsBy cX1_cellsBy 5 (some .int) 3 72 [.ref 11, .int v1, .int v2] σ (some (.int z.1)) z.2 := AM.int rfl (Nat.le_of_ble_eq_true rfl) (fun X => wfX1_cellsBy X v1 v2 σ z h)
-- fX3_may
def fX3_may_l53 (k45 : Int32 → Int32 → Sto → Option (Int32 × Sto)) : Nat → Int32 → Int32 → Int32 → Sto → Option (Int32 × Sto)
  | 0, _, _, _, _ => none
  | n + 1, v2, v3, v4, σ => if (5 : Int32) < v4 then (k45 v2 (v3 + (1 : Int32)) σ) else ((fX1_cellsBy v3 v4 σ).bind fun q2 => fX3_may_l53 k45 n (v2 ||| q2.1) v3 (v4 + (1 : Int32)) q2.2)
set_option maxRecDepth 100000 in
set_option maxHeartbeats 4000000 in
theorem wfX3_may_l53 (X : Scr) (k45 : Int32 → Int32 → Sto → Option (Int32 × Sto)) (hk45 : ∀ (v2 : Int32) (v3 : Int32) (σ : Sto) (z : Int32 × Sto), k45 v2 v3 σ = some z → Rt X RX3 cX3_may 5 (rmA 4 96) .ireturn 45 [(0, .ref 0), (2, .int v2), (3, .int v3)] [] σ (some (.int z.1)) z.2) : ∀ (n : Nat) (v2 : Int32) (v3 : Int32) (v4 : Int32) (σ : Sto) (z : Int32 × Sto), fX3_may_l53 k45 n v2 v3 v4 σ = some z → Rt X RX3 cX3_may 5 (rmA 4 96) .ireturn 53 [(0, .ref 0), (2, .int v2), (3, .int v3), (4, .int v4)] [] σ (some (.int z.1)) z.2 := by
  intro n
  induction n with
  | zero =>
    intro v2 v3 v4 σ z h
    rw [fX3_may_l53] at h
    cases h
  | succ n ih =>
    intro v2 v3 v4 σ z h
    rw [fX3_may_l53] at h
    refine Rt.iload 3 dX3_may_53 rfl ?_
    refine Rt.iconst 5 dX3_may_55 (by decide) ?_
    refine Rt.icmp_gt 78 dX3_may_56 (by decide) (fun c4 => ?_) (fun c4 => ?_)
    · replace h := (if_pos c4).symm.trans h
      refine Rt.iinc [(3, _), (0, _), (2, _), (4, _)] (v3 + (1 : Int32)) 2 dX3_may_78 rfl rfl (by decide) rfl ?_
      refine Rt.goto 45 dX3_may_81 (by decide) ?_
      refine Rt.pick [1, 2, 0] rfl ?_
      exact hk45 v2 (v3 + (1 : Int32)) _ z h
    · replace h := (if_neg c4).symm.trans h
      refine Rt.iload_n 1 dX3_may_59 rfl ?_
      refine Rt.aload_n 0 dX3_may_60 rfl ?_
      refine gfX3_35 ly0 dX3_may_61 ?_
      refine Rt.iload_n 2 dX3_may_64 rfl ?_
      refine Rt.iload 3 dX3_may_65 rfl ?_
      obtain ⟨q2, e2, h⟩ := bnd h
      refine Rt.cVN (mfX1_cellsBy v3 v4 _ q2 e2) lkX3_158 ly11 rfl rfl rfl ⟨Nat.le_of_ble_eq_true rfl, Nat.le_of_ble_eq_true rfl⟩ (Nat.le_of_ble_eq_true rfl) rfl dX3_may_67 ?_
      refine Rt.ior dX3_may_70 ?_
      refine Rt.istore_n [(2, _), (0, _), (3, _), (4, _)] dX3_may_71 (by decide) rfl ?_
      refine Rt.iinc [(4, _), (2, _), (0, _), (3, _)] (v4 + (1 : Int32)) 3 dX3_may_72 rfl rfl (by decide) rfl ?_
      refine Rt.goto 53 dX3_may_75 (by decide) ?_
      refine Rt.pick [2, 1, 3, 0] rfl ?_
      exact ih (v2 ||| q2.1) v3 (v4 + (1 : Int32)) _ z h
def fX3_may_l45 : Nat → Int32 → Int32 → Sto → Option (Int32 × Sto)
  | 0, _, _, _ => none
  | n + 1, v2, v3, σ => if (1 : Int32) < v3 then (some (v2, σ)) else (fX3_may_l53 (fun a0 a1 s => fX3_may_l45 n a0 a1 s) 300 v2 v3 (2 : Int32) σ)
set_option maxRecDepth 100000 in
set_option maxHeartbeats 4000000 in
theorem wfX3_may_l45 (X : Scr) : ∀ (n : Nat) (v2 : Int32) (v3 : Int32) (σ : Sto) (z : Int32 × Sto), fX3_may_l45 n v2 v3 σ = some z → Rt X RX3 cX3_may 5 (rmA 4 96) .ireturn 45 [(0, .ref 0), (2, .int v2), (3, .int v3)] [] σ (some (.int z.1)) z.2 := by
  intro n
  induction n with
  | zero =>
    intro v2 v3 σ z h
    rw [fX3_may_l45] at h
    cases h
  | succ n ih =>
    intro v2 v3 σ z h
    rw [fX3_may_l45] at h
    refine Rt.iload_n 2 dX3_may_45 rfl ?_
    refine Rt.iconst 1 dX3_may_46 (by decide) ?_
    refine Rt.icmp_gt 84 dX3_may_47 (by decide) (fun c3 => ?_) (fun c3 => ?_)
    · replace h := (if_pos c3).symm.trans h
      refine Rt.iload_n 1 dX3_may_84 rfl ?_
      obtain rfl := Option.some.inj h
      exact Rt.ret (v := some (.int v2)) dX3_may_85 rfl rfl rfl
    · replace h := (if_neg c3).symm.trans h
      refine Rt.iconst 2 dX3_may_50 (by decide) ?_
      refine Rt.istore [(4, _), (0, _), (2, _), (3, _)] dX3_may_51 (by decide) rfl ?_
      refine Rt.pick [1, 2, 3, 0] rfl ?_
      exact wfX3_may_l53 X (fun a0 a1 s => fX3_may_l45 n a0 a1 s) ih 300 v2 v3 (2 : Int32) _ z h
def fX3_may (v1 : Int32) (σ : Sto) : Option (Int32 × Sto) := (fX3_isNot v1 (2 : Int32) σ).bind fun q1 => if q1.1 = 0 then (if v1 = 0 then ((fX1_cellsBy (q1.2 1 5) (q1.2 1 7) q1.2).bind fun q3 => some (q3.1, q3.2)) else (fX3_may_l45 300 (0 : Int32) (0 : Int32) q1.2)) else ((fX3_refuse (-2 : Int32) q1.2).bind fun q4 => some (q4.1, q4.2))
set_option maxRecDepth 100000 in
set_option maxHeartbeats 4000000 in
theorem wfX3_may (X : Scr) (v1 : Int32) (σ : Sto) (z : Int32 × Sto) (h : fX3_may v1 σ = some z) : Rt X RX3 cX3_may 5 (rmA 4 96) .ireturn 0 [(0, .ref 0), (1, .int v1)] [] σ (some (.int z.1)) z.2 := by
  unfold fX3_may at h
  refine Rt.iload_n 1 dX3_may_0 rfl ?_
  refine Rt.iconst 2 dX3_may_1 (by decide) ?_
  obtain ⟨q1, e1, h⟩ := bnd h
  refine Rt.cS (mfX3_isNot v1 (2 : Int32) _ q1 e1) lkX3_75 rfl ⟨Nat.le_of_ble_eq_true rfl, Nat.le_of_ble_eq_true rfl⟩ (Nat.le_of_ble_eq_true rfl) rfl dX3_may_2 ?_
  refine Rt.if_eq 15 dX3_may_5 (by decide) (fun c1 => ?_) (fun c1 => ?_)
  · replace h := (if_pos c1).symm.trans h
    refine Rt.iload_n 1 dX3_may_15 rfl ?_
    refine Rt.if_ne 41 dX3_may_16 (by decide) (fun c2 => ?_) (fun c2 => ?_)
    · replace h := (if_neg c2).symm.trans h
      refine Rt.iconst 0 dX3_may_41 (by decide) ?_
      refine Rt.istore_n [(2, _), (0, _), (1, _)] dX3_may_42 (by decide) rfl ?_
      refine Rt.iconst 0 dX3_may_43 (by decide) ?_
      refine Rt.istore_n [(3, _), (2, _), (0, _), (1, _)] dX3_may_44 (by decide) rfl ?_
      refine Rt.pick [2, 1, 0] rfl ?_
      exact wfX3_may_l45 X 300 (0 : Int32) (0 : Int32) _ z h
    · replace h := (if_pos c2).symm.trans h
      refine Rt.aload_n 0 dX3_may_19 rfl ?_
      refine gfX3_35 ly0 dX3_may_20 ?_
      refine Rt.aload_n 0 dX3_may_23 rfl ?_
      refine gfX3_10 ly0 dX3_may_24 ?_
      refine gfX3_120 bk1.1 dX3_may_27 ?_
      refine Rt.aload_n 0 dX3_may_30 rfl ?_
      refine gfX3_10 ly0 dX3_may_31 ?_
      refine gfX3_123 bk1.1 dX3_may_34 ?_
      obtain ⟨q3, e3, h⟩ := bnd h
      refine Rt.cVN (mfX1_cellsBy (q1.2 1 5) (q1.2 1 7) _ q3 e3) lkX3_158 ly11 rfl rfl rfl ⟨Nat.le_of_ble_eq_true rfl, Nat.le_of_ble_eq_true rfl⟩ (Nat.le_of_ble_eq_true rfl) rfl dX3_may_37 ?_
      obtain rfl := Option.some.inj h
      exact Rt.ret (v := some (.int q3.1)) dX3_may_40 rfl rfl rfl
  · replace h := (if_neg c1).symm.trans h
    refine Rt.aload_n 0 dX3_may_8 rfl ?_
    refine Rt.bipush (-2) dX3_may_9 (by decide) ?_
    obtain ⟨q4, e4, h⟩ := bnd h
    refine Rt.cV (mfX3_refuse (-2 : Int32) _ q4 e4) lkX3_57 ly0 rfl rfl rfl ⟨Nat.le_of_ble_eq_true rfl, Nat.le_of_ble_eq_true rfl⟩ (Nat.le_of_ble_eq_true rfl) rfl dX3_may_11 ?_
    obtain rfl := Option.some.inj h
    exact Rt.ret (v := some (.int q4.1)) dX3_may_14 rfl rfl rfl
set_option maxRecDepth 100000 in
set_option maxHeartbeats 4000000 in
theorem mfX3_may (v1 : Int32) (σ : Sto) (z : Int32 × Sto) (h : fX3_may v1 σ = some z) : AM yX3_may cX3_may 5 (some .int) 4 96 [.ref 0, .int v1] σ (some (.int z.1)) z.2 := AM.int rfl (Nat.le_of_ble_eq_true rfl) (fun X => wfX3_may X v1 σ z h)
-- fX3_heMany
def fX3_heMany_b31 (k4 : Int32 → Int32 → Sto → Option (Int32 × Sto)) (k11 : Int32 → Int32 → Int32 → Sto → Option (Int32 × Sto)) (v1 : Int32) (v2 : Int32) (v3 : Int32) (σ : Sto) : Option (Int32 × Sto) := k11 v1 v2 (v3 + (1 : Int32)) σ
set_option maxRecDepth 100000 in
set_option maxHeartbeats 4000000 in
theorem wfX3_heMany_b31 (X : Scr) (k4 : Int32 → Int32 → Sto → Option (Int32 × Sto)) (hk4 : ∀ (v1 : Int32) (v2 : Int32) (σ : Sto) (z : Int32 × Sto), k4 v1 v2 σ = some z → Rt X RX3 cX3_heMany 4 (rmA 4 96) .ireturn 4 [(0, .ref 0), (1, .int v1), (2, .int v2)] [] σ (some (.int z.1)) z.2) (k11 : Int32 → Int32 → Int32 → Sto → Option (Int32 × Sto)) (hk11 : ∀ (v1 : Int32) (v2 : Int32) (v3 : Int32) (σ : Sto) (z : Int32 × Sto), k11 v1 v2 v3 σ = some z → Rt X RX3 cX3_heMany 4 (rmA 4 96) .ireturn 11 [(0, .ref 0), (1, .int v1), (2, .int v2), (3, .int v3)] [] σ (some (.int z.1)) z.2) (v1 : Int32) (v2 : Int32) (v3 : Int32) (σ : Sto) (z : Int32 × Sto) (h : fX3_heMany_b31 k4 k11 v1 v2 v3 σ = some z) : Rt X RX3 cX3_heMany 4 (rmA 4 96) .ireturn 31 [(0, .ref 0), (1, .int v1), (2, .int v2), (3, .int v3)] [] σ (some (.int z.1)) z.2 := by
  unfold fX3_heMany_b31 at h
  refine Rt.iinc [(3, _), (0, _), (1, _), (2, _)] (v3 + (1 : Int32)) 3 dX3_heMany_31 rfl rfl (by decide) rfl ?_
  refine Rt.goto 11 dX3_heMany_34 (by decide) ?_
  refine Rt.pick [1, 2, 3, 0] rfl ?_
  exact hk11 v1 v2 (v3 + (1 : Int32)) _ z h
def fX3_heMany_l11 (k4 : Int32 → Int32 → Sto → Option (Int32 × Sto)) : Nat → Int32 → Int32 → Int32 → Sto → Option (Int32 × Sto)
  | 0, _, _, _, _ => none
  | n + 1, v1, v2, v3, σ => if (5 : Int32) < v3 then (k4 v1 (v2 + (1 : Int32)) σ) else ((fX1_cellsBy v2 v3 σ).bind fun q1 => if q1.1 = 0 then (fX3_heMany_b31 k4 (fun a0 a1 a2 s => fX3_heMany_l11 k4 n a0 a1 a2 s) v1 v2 v3 q1.2) else (fX3_heMany_b31 k4 (fun a0 a1 a2 s => fX3_heMany_l11 k4 n a0 a1 a2 s) (v1 + (1 : Int32)) v2 v3 q1.2))
set_option maxRecDepth 100000 in
set_option maxHeartbeats 4000000 in
theorem wfX3_heMany_l11 (X : Scr) (k4 : Int32 → Int32 → Sto → Option (Int32 × Sto)) (hk4 : ∀ (v1 : Int32) (v2 : Int32) (σ : Sto) (z : Int32 × Sto), k4 v1 v2 σ = some z → Rt X RX3 cX3_heMany 4 (rmA 4 96) .ireturn 4 [(0, .ref 0), (1, .int v1), (2, .int v2)] [] σ (some (.int z.1)) z.2) : ∀ (n : Nat) (v1 : Int32) (v2 : Int32) (v3 : Int32) (σ : Sto) (z : Int32 × Sto), fX3_heMany_l11 k4 n v1 v2 v3 σ = some z → Rt X RX3 cX3_heMany 4 (rmA 4 96) .ireturn 11 [(0, .ref 0), (1, .int v1), (2, .int v2), (3, .int v3)] [] σ (some (.int z.1)) z.2 := by
  intro n
  induction n with
  | zero =>
    intro v1 v2 v3 σ z h
    rw [fX3_heMany_l11] at h
    cases h
  | succ n ih =>
    intro v1 v2 v3 σ z h
    rw [fX3_heMany_l11] at h
    refine Rt.iload_n 3 dX3_heMany_11 rfl ?_
    refine Rt.iconst 5 dX3_heMany_12 (by decide) ?_
    refine Rt.icmp_gt 37 dX3_heMany_13 (by decide) (fun c2 => ?_) (fun c2 => ?_)
    · replace h := (if_pos c2).symm.trans h
      refine Rt.iinc [(2, _), (0, _), (1, _), (3, _)] (v2 + (1 : Int32)) 2 dX3_heMany_37 rfl rfl (by decide) rfl ?_
      refine Rt.goto 4 dX3_heMany_40 (by decide) ?_
      refine Rt.pick [1, 2, 0] rfl ?_
      exact hk4 v1 (v2 + (1 : Int32)) _ z h
    · replace h := (if_neg c2).symm.trans h
      refine Rt.aload_n 0 dX3_heMany_16 rfl ?_
      refine gfX3_35 ly0 dX3_heMany_17 ?_
      refine Rt.iload_n 2 dX3_heMany_20 rfl ?_
      refine Rt.iload_n 3 dX3_heMany_21 rfl ?_
      obtain ⟨q1, e1, h⟩ := bnd h
      refine Rt.cVN (mfX1_cellsBy v2 v3 _ q1 e1) lkX3_158 ly11 rfl rfl rfl ⟨Nat.le_of_ble_eq_true rfl, Nat.le_of_ble_eq_true rfl⟩ (Nat.le_of_ble_eq_true rfl) rfl dX3_heMany_22 ?_
      refine Rt.if_eq 31 dX3_heMany_25 (by decide) (fun c3 => ?_) (fun c3 => ?_)
      · replace h := (if_pos c3).symm.trans h
        exact wfX3_heMany_b31 X k4 hk4 (fun a0 a1 a2 s => fX3_heMany_l11 k4 n a0 a1 a2 s) ih v1 v2 v3 _ z h
      · replace h := (if_neg c3).symm.trans h
        refine Rt.iinc [(1, _), (0, _), (2, _), (3, _)] (v1 + (1 : Int32)) 1 dX3_heMany_28 rfl rfl (by decide) rfl ?_
        refine Rt.pick [1, 0, 2, 3] rfl ?_
        exact wfX3_heMany_b31 X k4 hk4 (fun a0 a1 a2 s => fX3_heMany_l11 k4 n a0 a1 a2 s) ih (v1 + (1 : Int32)) v2 v3 _ z h
def fX3_heMany_l4 : Nat → Int32 → Int32 → Sto → Option (Int32 × Sto)
  | 0, _, _, _ => none
  | n + 1, v1, v2, σ => if (1 : Int32) < v2 then (some (v1, σ)) else (fX3_heMany_l11 (fun a0 a1 s => fX3_heMany_l4 n a0 a1 s) 300 v1 v2 (2 : Int32) σ)
set_option maxRecDepth 100000 in
set_option maxHeartbeats 4000000 in
theorem wfX3_heMany_l4 (X : Scr) : ∀ (n : Nat) (v1 : Int32) (v2 : Int32) (σ : Sto) (z : Int32 × Sto), fX3_heMany_l4 n v1 v2 σ = some z → Rt X RX3 cX3_heMany 4 (rmA 4 96) .ireturn 4 [(0, .ref 0), (1, .int v1), (2, .int v2)] [] σ (some (.int z.1)) z.2 := by
  intro n
  induction n with
  | zero =>
    intro v1 v2 σ z h
    rw [fX3_heMany_l4] at h
    cases h
  | succ n ih =>
    intro v1 v2 σ z h
    rw [fX3_heMany_l4] at h
    refine Rt.iload_n 2 dX3_heMany_4 rfl ?_
    refine Rt.iconst 1 dX3_heMany_5 (by decide) ?_
    refine Rt.icmp_gt 43 dX3_heMany_6 (by decide) (fun c1 => ?_) (fun c1 => ?_)
    · replace h := (if_pos c1).symm.trans h
      refine Rt.iload_n 1 dX3_heMany_43 rfl ?_
      obtain rfl := Option.some.inj h
      exact Rt.ret (v := some (.int v1)) dX3_heMany_44 rfl rfl rfl
    · replace h := (if_neg c1).symm.trans h
      refine Rt.iconst 2 dX3_heMany_9 (by decide) ?_
      refine Rt.istore_n [(3, _), (0, _), (1, _), (2, _)] dX3_heMany_10 (by decide) rfl ?_
      refine Rt.pick [1, 2, 3, 0] rfl ?_
      exact wfX3_heMany_l11 X (fun a0 a1 s => fX3_heMany_l4 n a0 a1 s) ih 300 v1 v2 (2 : Int32) _ z h
def fX3_heMany (σ : Sto) : Option (Int32 × Sto) := fX3_heMany_l4 300 (0 : Int32) (0 : Int32) σ
set_option maxRecDepth 100000 in
set_option maxHeartbeats 4000000 in
theorem wfX3_heMany (X : Scr) (σ : Sto) (z : Int32 × Sto) (h : fX3_heMany σ = some z) : Rt X RX3 cX3_heMany 4 (rmA 4 96) .ireturn 0 [(0, .ref 0)] [] σ (some (.int z.1)) z.2 := by
  unfold fX3_heMany at h
  refine Rt.iconst 0 dX3_heMany_0 (by decide) ?_
  refine Rt.istore_n [(1, _), (0, _)] dX3_heMany_1 (by decide) rfl ?_
  refine Rt.iconst 0 dX3_heMany_2 (by decide) ?_
  refine Rt.istore_n [(2, _), (1, _), (0, _)] dX3_heMany_3 (by decide) rfl ?_
  refine Rt.pick [2, 1, 0] rfl ?_
  exact wfX3_heMany_l4 X 300 (0 : Int32) (0 : Int32) _ z h
set_option maxRecDepth 100000 in
set_option maxHeartbeats 4000000 in
theorem mfX3_heMany (σ : Sto) (z : Int32 × Sto) (h : fX3_heMany σ = some z) : AM yX3_heMany cX3_heMany 4 (some .int) 4 96 [.ref 0] σ (some (.int z.1)) z.2 := AM.int rfl (Nat.le_of_ble_eq_true rfl) (fun X => wfX3_heMany X σ z h)
-- fX3_weightOf
def fX3_weightOf_l28 : Nat → Int32 → Int64 → Int32 → Sto → Option (Int64 × Sto)
  | 0, _, _, _, _ => none
  | n + 1, v2, v3, v5, σ => if v2 ≤ v5 then (some (v3, σ)) else (fX3_weightOf_l28 n v2 (v3 * (72 : Int64)) (v5 + (1 : Int32)) σ)
set_option maxRecDepth 100000 in
set_option maxHeartbeats 4000000 in
theorem wfX3_weightOf_l28 (X : Scr) : ∀ (n : Nat) (v2 : Int32) (v3 : Int64) (v5 : Int32) (σ : Sto) (z : Int64 × Sto), fX3_weightOf_l28 n v2 v3 v5 σ = some z → Rt X RX3 cX3_weightOf 6 (rmA 3 72) .lreturn 28 [(2, .int v2), (3, .long v3), (5, .int v5)] [] σ (some (.long z.1)) z.2 := by
  intro n
  induction n with
  | zero =>
    intro v2 v3 v5 σ z h
    rw [fX3_weightOf_l28] at h
    cases h
  | succ n ih =>
    intro v2 v3 v5 σ z h
    rw [fX3_weightOf_l28] at h
    refine Rt.iload 2 dX3_weightOf_28 rfl ?_
    refine Rt.iload_n 0 dX3_weightOf_30 rfl ?_
    refine Rt.icmp_ge 46 dX3_weightOf_31 (by decide) (fun c1 => ?_) (fun c1 => ?_)
    · replace h := (if_pos c1).symm.trans h
      refine Rt.lload_n 1 dX3_weightOf_46 rfl ?_
      obtain rfl := Option.some.inj h
      exact Rt.ret (v := some (.long v3)) dX3_weightOf_47 rfl rfl rfl
    · replace h := (if_neg c1).symm.trans h
      refine Rt.lload_n 1 dX3_weightOf_34 rfl ?_
      refine Rt.ldc2 72 clX3_203 dX3_weightOf_35 ?_
      refine Rt.lmul dX3_weightOf_38 ?_
      refine Rt.lstore_n [(3, _), (2, _), (5, _)] dX3_weightOf_39 (by decide) rfl ?_
      refine Rt.iinc [(5, _), (3, _), (2, _)] (v5 + (1 : Int32)) 2 dX3_weightOf_40 rfl rfl (by decide) rfl ?_
      refine Rt.goto 28 dX3_weightOf_43 (by decide) ?_
      refine Rt.pick [2, 1, 0] rfl ?_
      exact ih v2 (v3 * (72 : Int64)) (v5 + (1 : Int32)) _ z h
def fX3_weightOf (v1 : Int32) (σ : Sto) : Option (Int64 × Sto) := (fX1_trueAt v1 (σ 1 5) (σ 1 7) σ).bind fun q1 => fX3_weightOf_l28 300 q1.1 (1 : Int64) (0 : Int32) q1.2
set_option maxRecDepth 100000 in
set_option maxHeartbeats 4000000 in
theorem wfX3_weightOf (X : Scr) (v1 : Int32) (σ : Sto) (z : Int64 × Sto) (h : fX3_weightOf v1 σ = some z) : Rt X RX3 cX3_weightOf 6 (rmA 3 72) .lreturn 0 [(0, .ref 0), (1, .int v1)] [] σ (some (.long z.1)) z.2 := by
  unfold fX3_weightOf at h
  refine Rt.aload_n 0 dX3_weightOf_0 rfl ?_
  refine gfX3_35 ly0 dX3_weightOf_1 ?_
  refine Rt.iload_n 1 dX3_weightOf_4 rfl ?_
  refine Rt.aload_n 0 dX3_weightOf_5 rfl ?_
  refine gfX3_10 ly0 dX3_weightOf_6 ?_
  refine gfX3_120 bk1.1 dX3_weightOf_9 ?_
  refine Rt.aload_n 0 dX3_weightOf_12 rfl ?_
  refine gfX3_10 ly0 dX3_weightOf_13 ?_
  refine gfX3_123 bk1.1 dX3_weightOf_16 ?_
  obtain ⟨q1, e1, h⟩ := bnd h
  refine Rt.cVN (mfX1_trueAt v1 (σ 1 5) (σ 1 7) _ q1 e1) lkX3_179 ly11 rfl rfl rfl ⟨Nat.le_of_ble_eq_true rfl, Nat.le_of_ble_eq_true rfl⟩ (Nat.le_of_ble_eq_true rfl) rfl dX3_weightOf_19 ?_
  refine Rt.istore_n [(2, _), (0, _), (1, _)] dX3_weightOf_22 (by decide) rfl ?_
  refine Rt.lconst 1 dX3_weightOf_23 (by decide) ?_
  refine Rt.lstore_n [(3, _), (2, _), (0, _), (1, _)] dX3_weightOf_24 (by decide) rfl ?_
  refine Rt.iconst 0 dX3_weightOf_25 (by decide) ?_
  refine Rt.istore [(5, _), (3, _), (2, _), (0, _), (1, _)] dX3_weightOf_26 (by decide) rfl ?_
  refine Rt.pick [2, 1, 0] rfl ?_
  exact wfX3_weightOf_l28 X 300 q1.1 (1 : Int64) (0 : Int32) _ z h
set_option maxRecDepth 100000 in
set_option maxHeartbeats 4000000 in
theorem mfX3_weightOf (v1 : Int32) (σ : Sto) (z : Int64 × Sto) (h : fX3_weightOf v1 σ = some z) : AM yX3_weightOf cX3_weightOf 6 (some .long) 3 72 [.ref 0, .int v1] σ (some (.long z.1)) z.2 := AM.long rfl (Nat.le_of_ble_eq_true rfl) (fun X => wfX3_weightOf X v1 σ z h)
-- fX3_odds
def fX3_odds_l33 : Nat → Int32 → Int32 → Int64 → Int32 → Sto → Option (Int64 × Sto)
  | 0, _, _, _, _, _ => none
  | n + 1, v1, v2, v3, v5, σ => if (24 : Int32) ≤ v5 then ((fX3_weightOf v1 σ).bind fun q3 => (fX3_partOfFraction q3.1 v3 v2 q3.2).bind fun q4 => some (q4.1, q4.2)) else ((fX3_weightOf v5 σ).bind fun q5 => fX3_odds_l33 n v1 v2 (v3 + q5.1) (v5 + (1 : Int32)) q5.2)
set_option maxRecDepth 100000 in
set_option maxHeartbeats 4000000 in
theorem wfX3_odds_l33 (X : Scr) : ∀ (n : Nat) (v1 : Int32) (v2 : Int32) (v3 : Int64) (v5 : Int32) (σ : Sto) (z : Int64 × Sto), fX3_odds_l33 n v1 v2 v3 v5 σ = some z → Rt X RX3 cX3_odds 6 (rmA 4 97) .lreturn 33 [(0, .ref 0), (1, .int v1), (2, .int v2), (3, .long v3), (5, .int v5)] [] σ (some (.long z.1)) z.2 := by
  intro n
  induction n with
  | zero =>
    intro v1 v2 v3 v5 σ z h
    rw [fX3_odds_l33] at h
    cases h
  | succ n ih =>
    intro v1 v2 v3 v5 σ z h
    rw [fX3_odds_l33] at h
    refine Rt.iload 4 dX3_odds_33 rfl ?_
    refine Rt.bipush 24 dX3_odds_35 (by decide) ?_
    refine Rt.icmp_ge 55 dX3_odds_37 (by decide) (fun c3 => ?_) (fun c3 => ?_)
    · replace h := (if_pos c3).symm.trans h
      refine Rt.aload_n 0 dX3_odds_55 rfl ?_
      refine Rt.iload_n 1 dX3_odds_56 rfl ?_
      obtain ⟨q3, e3, h⟩ := bnd h
      refine Rt.cV (mfX3_weightOf v1 _ q3 e3) lkX3_161 ly0 rfl rfl rfl ⟨Nat.le_of_ble_eq_true rfl, Nat.le_of_ble_eq_true rfl⟩ (Nat.le_of_ble_eq_true rfl) rfl dX3_odds_57 ?_
      refine Rt.lload_n 3 dX3_odds_60 rfl ?_
      refine Rt.iload_n 2 dX3_odds_61 rfl ?_
      obtain ⟨q4, e4, h⟩ := bnd h
      refine Rt.cS (mfX3_partOfFraction q3.1 v3 v2 _ q4 e4) lkX3_148 rfl ⟨Nat.le_of_ble_eq_true rfl, Nat.le_of_ble_eq_true rfl⟩ (Nat.le_of_ble_eq_true rfl) rfl dX3_odds_62 ?_
      obtain rfl := Option.some.inj h
      exact Rt.ret (v := some (.long q4.1)) dX3_odds_65 rfl rfl rfl
    · replace h := (if_neg c3).symm.trans h
      refine Rt.lload_n 3 dX3_odds_40 rfl ?_
      refine Rt.aload_n 0 dX3_odds_41 rfl ?_
      refine Rt.iload 4 dX3_odds_42 rfl ?_
      obtain ⟨q5, e5, h⟩ := bnd h
      refine Rt.cV (mfX3_weightOf v5 _ q5 e5) lkX3_161 ly0 rfl rfl rfl ⟨Nat.le_of_ble_eq_true rfl, Nat.le_of_ble_eq_true rfl⟩ (Nat.le_of_ble_eq_true rfl) rfl dX3_odds_44 ?_
      refine Rt.ladd dX3_odds_47 ?_
      refine Rt.lstore_n [(3, _), (0, _), (1, _), (2, _), (5, _)] dX3_odds_48 (by decide) rfl ?_
      refine Rt.iinc [(5, _), (3, _), (0, _), (1, _), (2, _)] (v5 + (1 : Int32)) 4 dX3_odds_49 rfl rfl (by decide) rfl ?_
      refine Rt.goto 33 dX3_odds_52 (by decide) ?_
      refine Rt.pick [2, 3, 4, 1, 0] rfl ?_
      exact ih v1 v2 (v3 + q5.1) (v5 + (1 : Int32)) _ z h
def fX3_odds (v1 : Int32) (v2 : Int32) (σ : Sto) : Option (Int64 × Sto) := (fX3_isNoCell v1 σ).bind fun q1 => if q1.1 = 0 then ((fX3_isNot v2 (2 : Int32) q1.2).bind fun q2 => if q2.1 = 0 then (fX3_odds_l33 300 v1 v2 (0 : Int64) (0 : Int32) q2.2) else ((fX3_refuseLong (-2 : Int32) q2.2).bind fun q6 => some (q6.1, q6.2))) else ((fX3_refuseLong (-1 : Int32) q1.2).bind fun q7 => some (q7.1, q7.2))
set_option maxRecDepth 100000 in
set_option maxHeartbeats 4000000 in
theorem wfX3_odds (X : Scr) (v1 : Int32) (v2 : Int32) (σ : Sto) (z : Int64 × Sto) (h : fX3_odds v1 v2 σ = some z) : Rt X RX3 cX3_odds 6 (rmA 4 97) .lreturn 0 [(0, .ref 0), (1, .int v1), (2, .int v2)] [] σ (some (.long z.1)) z.2 := by
  unfold fX3_odds at h
  refine Rt.iload_n 1 dX3_odds_0 rfl ?_
  obtain ⟨q1, e1, h⟩ := bnd h
  refine Rt.cS (mfX3_isNoCell v1 _ q1 e1) lkX3_85 rfl ⟨Nat.le_of_ble_eq_true rfl, Nat.le_of_ble_eq_true rfl⟩ (Nat.le_of_ble_eq_true rfl) rfl dX3_odds_1 ?_
  refine Rt.if_eq 13 dX3_odds_4 (by decide) (fun c1 => ?_) (fun c1 => ?_)
  · replace h := (if_pos c1).symm.trans h
    refine Rt.iload_n 2 dX3_odds_13 rfl ?_
    refine Rt.iconst 2 dX3_odds_14 (by decide) ?_
    obtain ⟨q2, e2, h⟩ := bnd h
    refine Rt.cS (mfX3_isNot v2 (2 : Int32) _ q2 e2) lkX3_75 rfl ⟨Nat.le_of_ble_eq_true rfl, Nat.le_of_ble_eq_true rfl⟩ (Nat.le_of_ble_eq_true rfl) rfl dX3_odds_15 ?_
    refine Rt.if_eq 28 dX3_odds_18 (by decide) (fun c2 => ?_) (fun c2 => ?_)
    · replace h := (if_pos c2).symm.trans h
      refine Rt.lconst 0 dX3_odds_28 (by decide) ?_
      refine Rt.lstore_n [(3, _), (0, _), (1, _), (2, _)] dX3_odds_29 (by decide) rfl ?_
      refine Rt.iconst 0 dX3_odds_30 (by decide) ?_
      refine Rt.istore [(5, _), (3, _), (0, _), (1, _), (2, _)] dX3_odds_31 (by decide) rfl ?_
      refine Rt.pick [2, 3, 4, 1, 0] rfl ?_
      exact wfX3_odds_l33 X 300 v1 v2 (0 : Int64) (0 : Int32) _ z h
    · replace h := (if_neg c2).symm.trans h
      refine Rt.aload_n 0 dX3_odds_21 rfl ?_
      refine Rt.bipush (-2) dX3_odds_22 (by decide) ?_
      obtain ⟨q6, e6, h⟩ := bnd h
      refine Rt.cV (mfX3_refuseLong (-2 : Int32) _ q6 e6) lkX3_137 ly0 rfl rfl rfl ⟨Nat.le_of_ble_eq_true rfl, Nat.le_of_ble_eq_true rfl⟩ (Nat.le_of_ble_eq_true rfl) rfl dX3_odds_24 ?_
      obtain rfl := Option.some.inj h
      exact Rt.ret (v := some (.long q6.1)) dX3_odds_27 rfl rfl rfl
  · replace h := (if_neg c1).symm.trans h
    refine Rt.aload_n 0 dX3_odds_7 rfl ?_
    refine Rt.iconst (-1) dX3_odds_8 (by decide) ?_
    obtain ⟨q7, e7, h⟩ := bnd h
    refine Rt.cV (mfX3_refuseLong (-1 : Int32) _ q7 e7) lkX3_137 ly0 rfl rfl rfl ⟨Nat.le_of_ble_eq_true rfl, Nat.le_of_ble_eq_true rfl⟩ (Nat.le_of_ble_eq_true rfl) rfl dX3_odds_9 ?_
    obtain rfl := Option.some.inj h
    exact Rt.ret (v := some (.long q7.1)) dX3_odds_12 rfl rfl rfl
set_option maxRecDepth 100000 in
set_option maxHeartbeats 4000000 in
theorem mfX3_odds (v1 : Int32) (v2 : Int32) (σ : Sto) (z : Int64 × Sto) (h : fX3_odds v1 v2 σ = some z) : AM yX3_odds cX3_odds 6 (some .long) 4 97 [.ref 0, .int v1, .int v2] σ (some (.long z.1)) z.2 := AM.long rfl (Nat.le_of_ble_eq_true rfl) (fun X => wfX3_odds X v1 v2 σ z h)
-- fX3_leftAtWorst
def fX3_leftAtWorst_b100 (k26 : Int32 → Int32 → Int32 → Int32 → Sto → Option (Int32 × Sto)) (v1 : Int32) (v2 : Int32) (v3 : Int32) (v4 : Int32) (σ : Sto) : Option (Int32 × Sto) := k26 v1 v2 v3 (v4 + (1 : Int32)) σ
set_option maxRecDepth 100000 in
set_option maxHeartbeats 4000000 in
theorem wfX3_leftAtWorst_b100 (X : Scr) (k26 : Int32 → Int32 → Int32 → Int32 → Sto → Option (Int32 × Sto)) (hk26 : ∀ (v1 : Int32) (v2 : Int32) (v3 : Int32) (v4 : Int32) (σ : Sto) (z : Int32 × Sto), k26 v1 v2 v3 v4 σ = some z → Rt X RX3 cX3_leftAtWorst 6 (rmA 2 47) .ireturn 26 [(0, .ref 0), (1, .int v1), (2, .int v2), (3, .int v3), (4, .int v4)] [] σ (some (.int z.1)) z.2) (v1 : Int32) (v2 : Int32) (v3 : Int32) (v4 : Int32) (σ : Sto) (z : Int32 × Sto) (h : fX3_leftAtWorst_b100 k26 v1 v2 v3 v4 σ = some z) : Rt X RX3 cX3_leftAtWorst 6 (rmA 2 47) .ireturn 100 [(0, .ref 0), (1, .int v1), (2, .int v2), (3, .int v3), (4, .int v4)] [] σ (some (.int z.1)) z.2 := by
  unfold fX3_leftAtWorst_b100 at h
  refine Rt.iinc [(4, _), (0, _), (1, _), (2, _), (3, _)] (v4 + (1 : Int32)) 4 dX3_leftAtWorst_100 rfl rfl (by decide) rfl ?_
  refine Rt.goto 26 dX3_leftAtWorst_103 (by decide) ?_
  refine Rt.pick [1, 2, 3, 4, 0] rfl ?_
  exact hk26 v1 v2 v3 (v4 + (1 : Int32)) _ z h
def fX3_leftAtWorst_b88 (k26 : Int32 → Int32 → Int32 → Int32 → Sto → Option (Int32 × Sto)) (v1 : Int32) (v2 : Int32) (v3 : Int32) (v4 : Int32) (v5 : Int32) (σ : Sto) : Option (Int32 × Sto) := if inb v5 9 = true then (fX3_leftAtWorst_b100 k26 v1 v2 (mxI v3 (σ 15 (v5).toNatClampNeg)) v4 σ) else none
set_option maxRecDepth 100000 in
set_option maxHeartbeats 4000000 in
theorem wfX3_leftAtWorst_b88 (X : Scr) (k26 : Int32 → Int32 → Int32 → Int32 → Sto → Option (Int32 × Sto)) (hk26 : ∀ (v1 : Int32) (v2 : Int32) (v3 : Int32) (v4 : Int32) (σ : Sto) (z : Int32 × Sto), k26 v1 v2 v3 v4 σ = some z → Rt X RX3 cX3_leftAtWorst 6 (rmA 2 47) .ireturn 26 [(0, .ref 0), (1, .int v1), (2, .int v2), (3, .int v3), (4, .int v4)] [] σ (some (.int z.1)) z.2) (v1 : Int32) (v2 : Int32) (v3 : Int32) (v4 : Int32) (v5 : Int32) (σ : Sto) (z : Int32 × Sto) (h : fX3_leftAtWorst_b88 k26 v1 v2 v3 v4 v5 σ = some z) : Rt X RX3 cX3_leftAtWorst 6 (rmA 2 47) .ireturn 88 [(0, .ref 0), (1, .int v1), (2, .int v2), (3, .int v3), (4, .int v4), (5, .int v5)] [] σ (some (.int z.1)) z.2 := by
  unfold fX3_leftAtWorst_b88 at h
  refine Rt.iload_n 3 dX3_leftAtWorst_88 rfl ?_
  refine Rt.aload_n 0 dX3_leftAtWorst_89 rfl ?_
  refine gfX3_43 ly0 dX3_leftAtWorst_90 ?_
  refine Rt.iload 5 dX3_leftAtWorst_93 rfl ?_
  obtain ⟨g8, h⟩ := gd h
  refine Rt.iald ly15 g8 dX3_leftAtWorst_95 ?_
  refine Rt.mmax mlX3_205 smMmax iniMath cdMmax (Nat.le_of_ble_eq_true rfl) (Nat.le_of_ble_eq_true rfl) dX3_leftAtWorst_96 ?_
  refine Rt.istore_n [(3, _), (0, _), (1, _), (2, _), (4, _), (5, _)] dX3_leftAtWorst_99 (by decide) rfl ?_
  refine Rt.pick [1, 2, 3, 0, 4] rfl ?_
  exact wfX3_leftAtWorst_b100 X k26 hk26 v1 v2 (mxI v3 (σ 15 (v5).toNatClampNeg)) v4 _ z h
def fX3_leftAtWorst_l26 : Nat → Int32 → Int32 → Int32 → Int32 → Sto → Option (Int32 × Sto)
  | 0, _, _, _, _, _ => none
  | n + 1, v1, v2, v3, v4, σ => if (24 : Int32) ≤ v4 then (some (v3, σ)) else ((fX3_wordSaid v1 v4 (σ 1 5) (σ 1 7) σ).bind fun q1 => if ((ishr5 v2 v4) &&& (1 : Int32)) = (1 : Int32) then (if q1.1 < 0 then (fX3_leftAtWorst_b100 (fun a0 a1 a2 a3 s => fX3_leftAtWorst_l26 n a0 a1 a2 a3 s) v1 v2 v3 v4 q1.2) else (if (9 : Int32) ≤ q1.1 then (fX3_leftAtWorst_b100 (fun a0 a1 a2 a3 s => fX3_leftAtWorst_l26 n a0 a1 a2 a3 s) v1 v2 v3 v4 q1.2) else (if inb q1.1 9 = true then (if inb q1.1 9 = true then (fX3_leftAtWorst_b88 (fun a0 a1 a2 a3 s => fX3_leftAtWorst_l26 n a0 a1 a2 a3 s) v1 v2 v3 v4 q1.1 (upS q1.2 15 (q1.1).toNatClampNeg ((q1.2 15 (q1.1).toNatClampNeg) + (1 : Int32)))) else none) else none))) else (fX3_leftAtWorst_b100 (fun a0 a1 a2 a3 s => fX3_leftAtWorst_l26 n a0 a1 a2 a3 s) v1 v2 v3 v4 q1.2))
set_option maxRecDepth 100000 in
set_option maxHeartbeats 4000000 in
theorem wfX3_leftAtWorst_l26 (X : Scr) : ∀ (n : Nat) (v1 : Int32) (v2 : Int32) (v3 : Int32) (v4 : Int32) (σ : Sto) (z : Int32 × Sto), fX3_leftAtWorst_l26 n v1 v2 v3 v4 σ = some z → Rt X RX3 cX3_leftAtWorst 6 (rmA 2 47) .ireturn 26 [(0, .ref 0), (1, .int v1), (2, .int v2), (3, .int v3), (4, .int v4)] [] σ (some (.int z.1)) z.2 := by
  intro n
  induction n with
  | zero =>
    intro v1 v2 v3 v4 σ z h
    rw [fX3_leftAtWorst_l26] at h
    cases h
  | succ n ih =>
    intro v1 v2 v3 v4 σ z h
    rw [fX3_leftAtWorst_l26] at h
    refine Rt.iload 4 dX3_leftAtWorst_26 rfl ?_
    refine Rt.bipush 24 dX3_leftAtWorst_28 (by decide) ?_
    refine Rt.icmp_ge 106 dX3_leftAtWorst_30 (by decide) (fun c2 => ?_) (fun c2 => ?_)
    · replace h := (if_pos c2).symm.trans h
      refine Rt.iload_n 3 dX3_leftAtWorst_106 rfl ?_
      obtain rfl := Option.some.inj h
      exact Rt.ret (v := some (.int v3)) dX3_leftAtWorst_107 rfl rfl rfl
    · replace h := (if_neg c2).symm.trans h
      refine Rt.iload_n 1 dX3_leftAtWorst_33 rfl ?_
      refine Rt.iload 4 dX3_leftAtWorst_34 rfl ?_
      refine Rt.aload_n 0 dX3_leftAtWorst_36 rfl ?_
      refine gfX3_10 ly0 dX3_leftAtWorst_37 ?_
      refine gfX3_120 bk1.1 dX3_leftAtWorst_40 ?_
      refine Rt.aload_n 0 dX3_leftAtWorst_43 rfl ?_
      refine gfX3_10 ly0 dX3_leftAtWorst_44 ?_
      refine gfX3_123 bk1.1 dX3_leftAtWorst_47 ?_
      obtain ⟨q1, e1, h⟩ := bnd h
      refine Rt.cS (mfX3_wordSaid v1 v4 (σ 1 5) (σ 1 7) _ q1 e1) lkX3_126 rfl ⟨Nat.le_of_ble_eq_true rfl, Nat.le_of_ble_eq_true rfl⟩ (Nat.le_of_ble_eq_true rfl) rfl dX3_leftAtWorst_50 ?_
      refine Rt.istore [(5, _), (0, _), (1, _), (2, _), (3, _), (4, _)] dX3_leftAtWorst_53 (by decide) rfl ?_
      refine Rt.iload_n 3 dX3_leftAtWorst_55 rfl ?_
      refine Rt.iload 5 dX3_leftAtWorst_56 rfl ?_
      refine Rt.shr dX3_leftAtWorst_58 ?_
      refine Rt.iconst 1 dX3_leftAtWorst_59 (by decide) ?_
      refine Rt.iand dX3_leftAtWorst_60 ?_
      refine Rt.iconst 1 dX3_leftAtWorst_61 (by decide) ?_
      refine Rt.icmp_ne 100 dX3_leftAtWorst_62 (by decide) (fun c3 => ?_) (fun c3 => ?_)
      · replace h := (if_neg c3).symm.trans h
        refine Rt.pick [1, 2, 3, 4, 5] rfl ?_
        exact wfX3_leftAtWorst_b100 X (fun a0 a1 a2 a3 s => fX3_leftAtWorst_l26 n a0 a1 a2 a3 s) ih v1 v2 v3 v4 _ z h
      · replace h := (if_pos c3).symm.trans h
        refine Rt.iload 0 dX3_leftAtWorst_65 rfl ?_
        refine Rt.if_lt 100 dX3_leftAtWorst_67 (by decide) (fun c4 => ?_) (fun c4 => ?_)
        · replace h := (if_pos c4).symm.trans h
          refine Rt.pick [1, 2, 3, 4, 5] rfl ?_
          exact wfX3_leftAtWorst_b100 X (fun a0 a1 a2 a3 s => fX3_leftAtWorst_l26 n a0 a1 a2 a3 s) ih v1 v2 v3 v4 _ z h
        · replace h := (if_neg c4).symm.trans h
          refine Rt.iload 0 dX3_leftAtWorst_70 rfl ?_
          refine Rt.bipush 9 dX3_leftAtWorst_72 (by decide) ?_
          refine Rt.icmp_ge 100 dX3_leftAtWorst_74 (by decide) (fun c5 => ?_) (fun c5 => ?_)
          · replace h := (if_pos c5).symm.trans h
            refine Rt.pick [1, 2, 3, 4, 5] rfl ?_
            exact wfX3_leftAtWorst_b100 X (fun a0 a1 a2 a3 s => fX3_leftAtWorst_l26 n a0 a1 a2 a3 s) ih v1 v2 v3 v4 _ z h
          · replace h := (if_neg c5).symm.trans h
            refine Rt.aload_n 1 dX3_leftAtWorst_77 rfl ?_
            refine gfX3_43 ly0 dX3_leftAtWorst_78 ?_
            refine Rt.iload 0 dX3_leftAtWorst_81 rfl ?_
            refine Rt.dup2 dX3_leftAtWorst_83 rfl rfl ?_
            obtain ⟨g6, h⟩ := gd h
            refine Rt.iald ly15 g6 dX3_leftAtWorst_84 ?_
            refine Rt.iconst 1 dX3_leftAtWorst_85 (by decide) ?_
            refine Rt.iadd dX3_leftAtWorst_86 ?_
            obtain ⟨g7, h⟩ := gd h
            refine Rt.iast ly15 g7 dX3_leftAtWorst_87 ?_
            refine Rt.pick [1, 2, 3, 4, 5, 0] rfl ?_
            exact wfX3_leftAtWorst_b88 X (fun a0 a1 a2 a3 s => fX3_leftAtWorst_l26 n a0 a1 a2 a3 s) ih v1 v2 v3 v4 q1.1 _ z h
def fX3_leftAtWorst_l2 : Nat → Int32 → Int32 → Int32 → Sto → Option (Int32 × Sto)
  | 0, _, _, _, _ => none
  | n + 1, v1, v2, v3, σ => if (9 : Int32) ≤ v3 then (fX3_leftAtWorst_l26 300 v1 v2 (0 : Int32) (0 : Int32) σ) else (if inb v3 9 = true then (fX3_leftAtWorst_l2 n v1 v2 (v3 + (1 : Int32)) (upS σ 15 (v3).toNatClampNeg (0 : Int32))) else none)
set_option maxRecDepth 100000 in
set_option maxHeartbeats 4000000 in
theorem wfX3_leftAtWorst_l2 (X : Scr) : ∀ (n : Nat) (v1 : Int32) (v2 : Int32) (v3 : Int32) (σ : Sto) (z : Int32 × Sto), fX3_leftAtWorst_l2 n v1 v2 v3 σ = some z → Rt X RX3 cX3_leftAtWorst 6 (rmA 2 47) .ireturn 2 [(0, .ref 0), (1, .int v1), (2, .int v2), (3, .int v3)] [] σ (some (.int z.1)) z.2 := by
  intro n
  induction n with
  | zero =>
    intro v1 v2 v3 σ z h
    rw [fX3_leftAtWorst_l2] at h
    cases h
  | succ n ih =>
    intro v1 v2 v3 σ z h
    rw [fX3_leftAtWorst_l2] at h
    refine Rt.iload_n 3 dX3_leftAtWorst_2 rfl ?_
    refine Rt.bipush 9 dX3_leftAtWorst_3 (by decide) ?_
    refine Rt.icmp_ge 21 dX3_leftAtWorst_5 (by decide) (fun c1 => ?_) (fun c1 => ?_)
    · replace h := (if_pos c1).symm.trans h
      refine Rt.iconst 0 dX3_leftAtWorst_21 (by decide) ?_
      refine Rt.istore_n [(3, _), (0, _), (1, _), (2, _)] dX3_leftAtWorst_22 (by decide) rfl ?_
      refine Rt.iconst 0 dX3_leftAtWorst_23 (by decide) ?_
      refine Rt.istore [(4, _), (3, _), (0, _), (1, _), (2, _)] dX3_leftAtWorst_24 (by decide) rfl ?_
      refine Rt.pick [2, 3, 4, 1, 0] rfl ?_
      exact wfX3_leftAtWorst_l26 X 300 v1 v2 (0 : Int32) (0 : Int32) _ z h
    · replace h := (if_neg c1).symm.trans h
      refine Rt.aload_n 0 dX3_leftAtWorst_8 rfl ?_
      refine gfX3_43 ly0 dX3_leftAtWorst_9 ?_
      refine Rt.iload_n 3 dX3_leftAtWorst_12 rfl ?_
      refine Rt.iconst 0 dX3_leftAtWorst_13 (by decide) ?_
      obtain ⟨g9, h⟩ := gd h
      refine Rt.iast ly15 g9 dX3_leftAtWorst_14 ?_
      refine Rt.iinc [(3, _), (0, _), (1, _), (2, _)] (v3 + (1 : Int32)) 3 dX3_leftAtWorst_15 rfl rfl (by decide) rfl ?_
      refine Rt.goto 2 dX3_leftAtWorst_18 (by decide) ?_
      refine Rt.pick [1, 2, 3, 0] rfl ?_
      exact ih v1 v2 (v3 + (1 : Int32)) _ z h
def fX3_leftAtWorst (v1 : Int32) (v2 : Int32) (σ : Sto) : Option (Int32 × Sto) := fX3_leftAtWorst_l2 300 v1 v2 (0 : Int32) σ
set_option maxRecDepth 100000 in
set_option maxHeartbeats 4000000 in
theorem wfX3_leftAtWorst (X : Scr) (v1 : Int32) (v2 : Int32) (σ : Sto) (z : Int32 × Sto) (h : fX3_leftAtWorst v1 v2 σ = some z) : Rt X RX3 cX3_leftAtWorst 6 (rmA 2 47) .ireturn 0 [(0, .ref 0), (1, .int v1), (2, .int v2)] [] σ (some (.int z.1)) z.2 := by
  unfold fX3_leftAtWorst at h
  refine Rt.iconst 0 dX3_leftAtWorst_0 (by decide) ?_
  refine Rt.istore_n [(3, _), (0, _), (1, _), (2, _)] dX3_leftAtWorst_1 (by decide) rfl ?_
  refine Rt.pick [1, 2, 3, 0] rfl ?_
  exact wfX3_leftAtWorst_l2 X 300 v1 v2 (0 : Int32) _ z h
set_option maxRecDepth 100000 in
set_option maxHeartbeats 4000000 in
theorem mfX3_leftAtWorst (v1 : Int32) (v2 : Int32) (σ : Sto) (z : Int32 × Sto) (h : fX3_leftAtWorst v1 v2 σ = some z) : AM yX3_leftAtWorst cX3_leftAtWorst 6 (some .int) 2 47 [.ref 0, .int v1, .int v2] σ (some (.int z.1)) z.2 := AM.int rfl (Nat.le_of_ble_eq_true rfl) (fun X => wfX3_leftAtWorst X v1 v2 σ z h)
-- fX3_next
def fX3_next_b83 (k53 : Int32 → Int32 → Int32 → Int32 → Int32 → Sto → Option (Int32 × Sto)) (v1 : Int32) (v2 : Int32) (v3 : Int32) (v4 : Int32) (v5 : Int32) (σ : Sto) : Option (Int32 × Sto) := k53 v1 v2 v3 v4 (v5 + (1 : Int32)) σ
set_option maxRecDepth 100000 in
set_option maxHeartbeats 4000000 in
theorem wfX3_next_b83 (X : Scr) (k53 : Int32 → Int32 → Int32 → Int32 → Int32 → Sto → Option (Int32 × Sto)) (hk53 : ∀ (v1 : Int32) (v2 : Int32) (v3 : Int32) (v4 : Int32) (v5 : Int32) (σ : Sto) (z : Int32 × Sto), k53 v1 v2 v3 v4 v5 σ = some z → Rt X RX3 cX3_next 7 (rmA 4 96) .ireturn 53 [(0, .ref 0), (1, .int v1), (2, .int v2), (3, .int v3), (4, .int v4), (5, .int v5)] [] σ (some (.int z.1)) z.2) (v1 : Int32) (v2 : Int32) (v3 : Int32) (v4 : Int32) (v5 : Int32) (σ : Sto) (z : Int32 × Sto) (h : fX3_next_b83 k53 v1 v2 v3 v4 v5 σ = some z) : Rt X RX3 cX3_next 7 (rmA 4 96) .ireturn 83 [(0, .ref 0), (1, .int v1), (2, .int v2), (3, .int v3), (4, .int v4), (5, .int v5)] [] σ (some (.int z.1)) z.2 := by
  unfold fX3_next_b83 at h
  refine Rt.iinc [(5, _), (0, _), (1, _), (2, _), (3, _), (4, _)] (v5 + (1 : Int32)) 5 dX3_next_83 rfl rfl (by decide) rfl ?_
  refine Rt.goto 53 dX3_next_86 (by decide) ?_
  refine Rt.pick [1, 2, 3, 4, 5, 0] rfl ?_
  exact hk53 v1 v2 v3 v4 (v5 + (1 : Int32)) _ z h
def fX3_next_l53 : Nat → Int32 → Int32 → Int32 → Int32 → Int32 → Sto → Option (Int32 × Sto)
  | 0, _, _, _, _, _, _ => none
  | n + 1, v1, v2, v3, v4, v5, σ => if (24 : Int32) ≤ v5 then (if v1 = 0 then (some (v3, σ)) else (some (v4, σ))) else ((fX3_leftAtWorst v5 v2 σ).bind fun q3 => if v4 ≤ q3.1 then (fX3_next_b83 (fun a0 a1 a2 a3 a4 s => fX3_next_l53 n a0 a1 a2 a3 a4 s) v1 v2 v3 v4 v5 q3.2) else (fX3_next_b83 (fun a0 a1 a2 a3 a4 s => fX3_next_l53 n a0 a1 a2 a3 a4 s) v1 v2 v5 q3.1 v5 q3.2))
set_option maxRecDepth 100000 in
set_option maxHeartbeats 4000000 in
theorem wfX3_next_l53 (X : Scr) : ∀ (n : Nat) (v1 : Int32) (v2 : Int32) (v3 : Int32) (v4 : Int32) (v5 : Int32) (σ : Sto) (z : Int32 × Sto), fX3_next_l53 n v1 v2 v3 v4 v5 σ = some z → Rt X RX3 cX3_next 7 (rmA 4 96) .ireturn 53 [(0, .ref 0), (1, .int v1), (2, .int v2), (3, .int v3), (4, .int v4), (5, .int v5)] [] σ (some (.int z.1)) z.2 := by
  intro n
  induction n with
  | zero =>
    intro v1 v2 v3 v4 v5 σ z h
    rw [fX3_next_l53] at h
    cases h
  | succ n ih =>
    intro v1 v2 v3 v4 v5 σ z h
    rw [fX3_next_l53] at h
    refine Rt.iload 5 dX3_next_53 rfl ?_
    refine Rt.bipush 24 dX3_next_55 (by decide) ?_
    refine Rt.icmp_ge 89 dX3_next_57 (by decide) (fun c3 => ?_) (fun c3 => ?_)
    · replace h := (if_pos c3).symm.trans h
      refine Rt.iload_n 1 dX3_next_89 rfl ?_
      refine Rt.if_ne 97 dX3_next_90 (by decide) (fun c4 => ?_) (fun c4 => ?_)
      · replace h := (if_neg c4).symm.trans h
        refine Rt.iload 4 dX3_next_97 rfl ?_
        obtain rfl := Option.some.inj h
        exact Rt.ret (v := some (.int v4)) dX3_next_99 rfl rfl rfl
      · replace h := (if_pos c4).symm.trans h
        refine Rt.iload_n 3 dX3_next_93 rfl ?_
        refine Rt.goto 99 dX3_next_94 (by decide) ?_
        obtain rfl := Option.some.inj h
        exact Rt.ret (v := some (.int v3)) dX3_next_99 rfl rfl rfl
    · replace h := (if_neg c3).symm.trans h
      refine Rt.aload_n 0 dX3_next_60 rfl ?_
      refine Rt.iload 5 dX3_next_61 rfl ?_
      refine Rt.iload_n 2 dX3_next_63 rfl ?_
      obtain ⟨q3, e3, h⟩ := bnd h
      refine Rt.cV (mfX3_leftAtWorst v5 v2 _ q3 e3) lkX3_164 ly0 rfl rfl rfl ⟨Nat.le_of_ble_eq_true rfl, Nat.le_of_ble_eq_true rfl⟩ (Nat.le_of_ble_eq_true rfl) rfl dX3_next_64 ?_
      refine Rt.istore [(6, _), (0, _), (1, _), (2, _), (3, _), (4, _), (5, _)] dX3_next_67 (by decide) rfl ?_
      refine Rt.iload 0 dX3_next_69 rfl ?_
      refine Rt.iload 5 dX3_next_71 rfl ?_
      refine Rt.icmp_ge 83 dX3_next_73 (by decide) (fun c5 => ?_) (fun c5 => ?_)
      · replace h := (if_pos c5).symm.trans h
        refine Rt.pick [1, 2, 3, 4, 5, 6] rfl ?_
        exact wfX3_next_b83 X (fun a0 a1 a2 a3 a4 s => fX3_next_l53 n a0 a1 a2 a3 a4 s) ih v1 v2 v3 v4 v5 _ z h
      · replace h := (if_neg c5).symm.trans h
        refine Rt.iload 0 dX3_next_76 rfl ?_
        refine Rt.istore [(4, _), (6, _), (0, _), (1, _), (2, _), (3, _), (5, _)] dX3_next_78 (by decide) rfl ?_
        refine Rt.iload 6 dX3_next_80 rfl ?_
        refine Rt.istore_n [(3, _), (4, _), (6, _), (0, _), (1, _), (2, _), (5, _)] dX3_next_82 (by decide) rfl ?_
        refine Rt.pick [3, 4, 5, 0, 1, 6] rfl ?_
        exact wfX3_next_b83 X (fun a0 a1 a2 a3 a4 s => fX3_next_l53 n a0 a1 a2 a3 a4 s) ih v1 v2 v5 q3.1 v5 _ z h
def fX3_next (v1 : Int32) (σ : Sto) : Option (Int32 × Sto) := (fX3_isNot v1 (2 : Int32) σ).bind fun q1 => if q1.1 = 0 then ((fX1_cellsBy (q1.2 1 5) (q1.2 1 7) q1.2).bind fun q2 => if q2.1 = 0 then (some ((-9 : Int32), q2.2)) else (fX3_next_l53 300 v1 q2.1 (0 : Int32) (25 : Int32) (0 : Int32) q2.2)) else ((fX3_refuse (-2 : Int32) q1.2).bind fun q4 => some (q4.1, q4.2))
set_option maxRecDepth 100000 in
set_option maxHeartbeats 4000000 in
theorem wfX3_next (X : Scr) (v1 : Int32) (σ : Sto) (z : Int32 × Sto) (h : fX3_next v1 σ = some z) : Rt X RX3 cX3_next 7 (rmA 4 96) .ireturn 0 [(0, .ref 0), (1, .int v1)] [] σ (some (.int z.1)) z.2 := by
  unfold fX3_next at h
  refine Rt.iload_n 1 dX3_next_0 rfl ?_
  refine Rt.iconst 2 dX3_next_1 (by decide) ?_
  obtain ⟨q1, e1, h⟩ := bnd h
  refine Rt.cS (mfX3_isNot v1 (2 : Int32) _ q1 e1) lkX3_75 rfl ⟨Nat.le_of_ble_eq_true rfl, Nat.le_of_ble_eq_true rfl⟩ (Nat.le_of_ble_eq_true rfl) rfl dX3_next_2 ?_
  refine Rt.if_eq 15 dX3_next_5 (by decide) (fun c1 => ?_) (fun c1 => ?_)
  · replace h := (if_pos c1).symm.trans h
    refine Rt.aload_n 0 dX3_next_15 rfl ?_
    refine gfX3_35 ly0 dX3_next_16 ?_
    refine Rt.aload_n 0 dX3_next_19 rfl ?_
    refine gfX3_10 ly0 dX3_next_20 ?_
    refine gfX3_120 bk1.1 dX3_next_23 ?_
    refine Rt.aload_n 0 dX3_next_26 rfl ?_
    refine gfX3_10 ly0 dX3_next_27 ?_
    refine gfX3_123 bk1.1 dX3_next_30 ?_
    obtain ⟨q2, e2, h⟩ := bnd h
    refine Rt.cVN (mfX1_cellsBy (q1.2 1 5) (q1.2 1 7) _ q2 e2) lkX3_158 ly11 rfl rfl rfl ⟨Nat.le_of_ble_eq_true rfl, Nat.le_of_ble_eq_true rfl⟩ (Nat.le_of_ble_eq_true rfl) rfl dX3_next_33 ?_
    refine Rt.istore_n [(2, _), (0, _), (1, _)] dX3_next_36 (by decide) rfl ?_
    refine Rt.iload_n 0 dX3_next_37 rfl ?_
    refine Rt.if_ne 44 dX3_next_38 (by decide) (fun c2 => ?_) (fun c2 => ?_)
    · replace h := (if_neg c2).symm.trans h
      refine Rt.iconst 0 dX3_next_44 (by decide) ?_
      refine Rt.istore_n [(3, _), (2, _), (0, _), (1, _)] dX3_next_45 (by decide) rfl ?_
      refine Rt.bipush 25 dX3_next_46 (by decide) ?_
      refine Rt.istore [(4, _), (3, _), (2, _), (0, _), (1, _)] dX3_next_48 (by decide) rfl ?_
      refine Rt.iconst 0 dX3_next_50 (by decide) ?_
      refine Rt.istore [(5, _), (4, _), (3, _), (2, _), (0, _), (1, _)] dX3_next_51 (by decide) rfl ?_
      refine Rt.pick [4, 5, 3, 2, 1, 0] rfl ?_
      exact wfX3_next_l53 X 300 v1 q2.1 (0 : Int32) (25 : Int32) (0 : Int32) _ z h
    · replace h := (if_pos c2).symm.trans h
      refine Rt.bipush (-9) dX3_next_41 (by decide) ?_
      obtain rfl := Option.some.inj h
      exact Rt.ret (v := some (.int (-9 : Int32))) dX3_next_43 rfl rfl rfl
  · replace h := (if_neg c1).symm.trans h
    refine Rt.aload_n 0 dX3_next_8 rfl ?_
    refine Rt.bipush (-2) dX3_next_9 (by decide) ?_
    obtain ⟨q4, e4, h⟩ := bnd h
    refine Rt.cV (mfX3_refuse (-2 : Int32) _ q4 e4) lkX3_57 ly0 rfl rfl rfl ⟨Nat.le_of_ble_eq_true rfl, Nat.le_of_ble_eq_true rfl⟩ (Nat.le_of_ble_eq_true rfl) rfl dX3_next_11 ?_
    obtain rfl := Option.some.inj h
    exact Rt.ret (v := some (.int q4.1)) dX3_next_14 rfl rfl rfl
set_option maxRecDepth 100000 in
set_option maxHeartbeats 4000000 in
theorem mfX3_next (v1 : Int32) (σ : Sto) (z : Int32 × Sto) (h : fX3_next v1 σ = some z) : AM yX3_next cX3_next 7 (some .int) 4 96 [.ref 0, .int v1] σ (some (.int z.1)) z.2 := AM.int rfl (Nat.le_of_ble_eq_true rfl) (fun X => wfX3_next X v1 σ z h)
-- fX3_strokesOfStrip
def fX3_strokesOfStrip_l64 : Nat → Int32 → Int32 → Int32 → Int32 → Sto → Option (Int32 × Sto)
  | 0, _, _, _, _, _ => none
  | n + 1, v3, v4, v5, v6, σ => if v4 ≤ v6 then (if (σ 5 2) = (24 : Int32) then (some (v4, σ)) else (some ((-9 : Int32), σ))) else (if (σ 5 2) = (24 : Int32) then (some (v6, σ)) else ((fX0_strokeOn 5 (v3 + (v5 * v6)) σ).bind fun q2 => fX3_strokesOfStrip_l64 n v3 v4 v5 (v6 + (1 : Int32)) q2.2))
set_option maxRecDepth 100000 in
set_option maxHeartbeats 4000000 in
theorem wfX3_strokesOfStrip_l64 (X : Scr) : ∀ (n : Nat) (v3 : Int32) (v4 : Int32) (v5 : Int32) (v6 : Int32) (σ : Sto) (z : Int32 × Sto), fX3_strokesOfStrip_l64 n v3 v4 v5 v6 σ = some z → Rt X RX3 cX3_strokesOfStrip 7 (rmA 3 81) .ireturn 64 [(0, .ref 0), (3, .int v3), (4, .int v4), (5, .int v5), (6, .int v6)] [] σ (some (.int z.1)) z.2 := by
  intro n
  induction n with
  | zero =>
    intro v3 v4 v5 v6 σ z h
    rw [fX3_strokesOfStrip_l64] at h
    cases h
  | succ n ih =>
    intro v3 v4 v5 v6 σ z h
    rw [fX3_strokesOfStrip_l64] at h
    refine Rt.iload 4 dX3_strokesOfStrip_64 rfl ?_
    refine Rt.iload 2 dX3_strokesOfStrip_66 rfl ?_
    refine Rt.icmp_ge 106 dX3_strokesOfStrip_68 (by decide) (fun c5 => ?_) (fun c5 => ?_)
    · replace h := (if_pos c5).symm.trans h
      refine Rt.aload_n 0 dX3_strokesOfStrip_106 rfl ?_
      refine gfX3_19 ly0 dX3_strokesOfStrip_107 ?_
      refine gfX3_82 bk5.1 dX3_strokesOfStrip_110 ?_
      refine Rt.bipush 24 dX3_strokesOfStrip_113 (by decide) ?_
      refine Rt.icmp_ne 123 dX3_strokesOfStrip_115 (by decide) (fun c6 => ?_) (fun c6 => ?_)
      · replace h := (if_neg c6).symm.trans h
        refine Rt.bipush (-9) dX3_strokesOfStrip_123 (by decide) ?_
        obtain rfl := Option.some.inj h
        exact Rt.ret (v := some (.int (-9 : Int32))) dX3_strokesOfStrip_125 rfl rfl rfl
      · replace h := (if_pos c6).symm.trans h
        refine Rt.iload 2 dX3_strokesOfStrip_118 rfl ?_
        refine Rt.goto 125 dX3_strokesOfStrip_120 (by decide) ?_
        obtain rfl := Option.some.inj h
        exact Rt.ret (v := some (.int v4)) dX3_strokesOfStrip_125 rfl rfl rfl
    · replace h := (if_neg c5).symm.trans h
      refine Rt.aload_n 0 dX3_strokesOfStrip_71 rfl ?_
      refine gfX3_19 ly0 dX3_strokesOfStrip_72 ?_
      refine gfX3_82 bk5.1 dX3_strokesOfStrip_75 ?_
      refine Rt.bipush 24 dX3_strokesOfStrip_78 (by decide) ?_
      refine Rt.icmp_ne 86 dX3_strokesOfStrip_80 (by decide) (fun c7 => ?_) (fun c7 => ?_)
      · replace h := (if_neg c7).symm.trans h
        refine Rt.aload_n 0 dX3_strokesOfStrip_86 rfl ?_
        refine gfX3_19 ly0 dX3_strokesOfStrip_87 ?_
        refine Rt.iload_n 1 dX3_strokesOfStrip_90 rfl ?_
        refine Rt.iload 3 dX3_strokesOfStrip_91 rfl ?_
        refine Rt.iload 4 dX3_strokesOfStrip_93 rfl ?_
        refine Rt.imul dX3_strokesOfStrip_95 ?_
        refine Rt.iadd dX3_strokesOfStrip_96 ?_
        obtain ⟨q2, e2, h⟩ := bnd h
        refine Rt.cVN0 (mfX0_strokeOn 5 bk5 (v3 + (v5 * v6)) _ q2 e2) lkX3_109 bk5.1 rfl rfl rfl ⟨Nat.le_of_ble_eq_true rfl, Nat.le_of_ble_eq_true rfl⟩ (Nat.le_of_ble_eq_true rfl) rfl dX3_strokesOfStrip_97 ?_
        refine Rt.iinc [(6, _), (0, _), (3, _), (4, _), (5, _)] (v6 + (1 : Int32)) 4 dX3_strokesOfStrip_100 rfl rfl (by decide) rfl ?_
        refine Rt.goto 64 dX3_strokesOfStrip_103 (by decide) ?_
        refine Rt.pick [1, 2, 3, 4, 0] rfl ?_
        exact ih v3 v4 v5 (v6 + (1 : Int32)) _ z h
      · replace h := (if_pos c7).symm.trans h
        refine Rt.iload 4 dX3_strokesOfStrip_83 rfl ?_
        obtain rfl := Option.some.inj h
        exact Rt.ret (v := some (.int v6)) dX3_strokesOfStrip_85 rfl rfl rfl
def fX3_strokesOfStrip_b48 (v3 : Int32) (v4 : Int32) (s0 : Int32) (σ : Sto) : Option (Int32 × Sto) := (fX0_take 5 1 σ).bind fun q1 => fX3_strokesOfStrip_l64 300 v3 v4 s0 (0 : Int32) q1.2
set_option maxRecDepth 100000 in
set_option maxHeartbeats 4000000 in
theorem wfX3_strokesOfStrip_b48 (X : Scr) (v3 : Int32) (v4 : Int32) (s0 : Int32) (σ : Sto) (z : Int32 × Sto) (h : fX3_strokesOfStrip_b48 v3 v4 s0 σ = some z) : Rt X RX3 cX3_strokesOfStrip 7 (rmA 3 81) .ireturn 48 [(0, .ref 0), (3, .int v3), (4, .int v4)] [.int s0] σ (some (.int z.1)) z.2 := by
  unfold fX3_strokesOfStrip_b48 at h
  refine Rt.istore [(5, _), (0, _), (3, _), (4, _)] dX3_strokesOfStrip_48 (by decide) rfl ?_
  refine Rt.aload_n 1 dX3_strokesOfStrip_50 rfl ?_
  refine gfX3_19 ly0 dX3_strokesOfStrip_51 ?_
  refine Rt.aload_n 1 dX3_strokesOfStrip_54 rfl ?_
  refine gfX3_10 ly0 dX3_strokesOfStrip_55 ?_
  obtain ⟨q1, e1, h⟩ := bnd h
  refine Rt.cVN0 (mfX0_take 5 bk5 1 bk1 _ q1 e1) lkX3_67 bk5.1 rfl rfl rfl ⟨Nat.le_of_ble_eq_true rfl, Nat.le_of_ble_eq_true rfl⟩ (Nat.le_of_ble_eq_true rfl) rfl dX3_strokesOfStrip_58 ?_
  refine Rt.iconst 0 dX3_strokesOfStrip_61 (by decide) ?_
  refine Rt.istore [(6, _), (5, _), (0, _), (3, _), (4, _)] dX3_strokesOfStrip_62 (by decide) rfl ?_
  refine Rt.pick [2, 3, 4, 1, 0] rfl ?_
  exact wfX3_strokesOfStrip_l64 X 300 v3 v4 s0 (0 : Int32) _ z h
def fX3_strokesOfStrip_b36 (v2 : Int32) (v3 : Int32) (s0 : Int32) (σ : Sto) : Option (Int32 × Sto) := if v2 = 0 then (fX3_strokesOfStrip_b48 v3 s0 (6 : Int32) σ) else (fX3_strokesOfStrip_b48 v3 s0 (1 : Int32) σ)
set_option maxRecDepth 100000 in
set_option maxHeartbeats 4000000 in
theorem wfX3_strokesOfStrip_b36 (X : Scr) (v2 : Int32) (v3 : Int32) (s0 : Int32) (σ : Sto) (z : Int32 × Sto) (h : fX3_strokesOfStrip_b36 v2 v3 s0 σ = some z) : Rt X RX3 cX3_strokesOfStrip 7 (rmA 3 81) .ireturn 36 [(0, .ref 0), (2, .int v2), (3, .int v3)] [.int s0] σ (some (.int z.1)) z.2 := by
  unfold fX3_strokesOfStrip_b36 at h
  refine Rt.istore [(4, _), (0, _), (2, _), (3, _)] dX3_strokesOfStrip_36 (by decide) rfl ?_
  refine Rt.iload_n 2 dX3_strokesOfStrip_38 rfl ?_
  refine Rt.if_eq 46 dX3_strokesOfStrip_39 (by decide) (fun c4 => ?_) (fun c4 => ?_)
  · replace h := (if_pos c4).symm.trans h
    refine Rt.bipush 6 dX3_strokesOfStrip_46 (by decide) ?_
    refine Rt.pick [1, 3, 0] rfl ?_
    exact wfX3_strokesOfStrip_b48 X v3 s0 (6 : Int32) _ z h
  · replace h := (if_neg c4).symm.trans h
    refine Rt.iconst 1 dX3_strokesOfStrip_42 (by decide) ?_
    refine Rt.goto 48 dX3_strokesOfStrip_43 (by decide) ?_
    refine Rt.pick [1, 3, 0] rfl ?_
    exact wfX3_strokesOfStrip_b48 X v3 s0 (1 : Int32) _ z h
def fX3_strokesOfStrip_b25 (v2 : Int32) (s0 : Int32) (σ : Sto) : Option (Int32 × Sto) := if v2 = 0 then (fX3_strokesOfStrip_b36 v2 s0 (4 : Int32) σ) else (fX3_strokesOfStrip_b36 v2 s0 (6 : Int32) σ)
set_option maxRecDepth 100000 in
set_option maxHeartbeats 4000000 in
theorem wfX3_strokesOfStrip_b25 (X : Scr) (v2 : Int32) (s0 : Int32) (σ : Sto) (z : Int32 × Sto) (h : fX3_strokesOfStrip_b25 v2 s0 σ = some z) : Rt X RX3 cX3_strokesOfStrip 7 (rmA 3 81) .ireturn 25 [(0, .ref 0), (2, .int v2)] [.int s0] σ (some (.int z.1)) z.2 := by
  unfold fX3_strokesOfStrip_b25 at h
  refine Rt.istore_n [(3, _), (0, _), (2, _)] dX3_strokesOfStrip_25 (by decide) rfl ?_
  refine Rt.iload_n 2 dX3_strokesOfStrip_26 rfl ?_
  refine Rt.if_eq 35 dX3_strokesOfStrip_27 (by decide) (fun c3 => ?_) (fun c3 => ?_)
  · replace h := (if_pos c3).symm.trans h
    refine Rt.iconst 4 dX3_strokesOfStrip_35 (by decide) ?_
    refine Rt.pick [1, 2, 0] rfl ?_
    exact wfX3_strokesOfStrip_b36 X v2 s0 (4 : Int32) _ z h
  · replace h := (if_neg c3).symm.trans h
    refine Rt.bipush 6 dX3_strokesOfStrip_30 (by decide) ?_
    refine Rt.goto 36 dX3_strokesOfStrip_32 (by decide) ?_
    refine Rt.pick [1, 2, 0] rfl ?_
    exact wfX3_strokesOfStrip_b36 X v2 s0 (6 : Int32) _ z h
def fX3_strokesOfStrip_b10 (v1 : Int32) (s0 : Int32) (σ : Sto) : Option (Int32 × Sto) := if s0 = 0 then (fX3_strokesOfStrip_b25 s0 (v1 - (4 : Int32)) σ) else (fX3_strokesOfStrip_b25 s0 ((6 : Int32) * v1) σ)
set_option maxRecDepth 100000 in
set_option maxHeartbeats 4000000 in
theorem wfX3_strokesOfStrip_b10 (X : Scr) (v1 : Int32) (s0 : Int32) (σ : Sto) (z : Int32 × Sto) (h : fX3_strokesOfStrip_b10 v1 s0 σ = some z) : Rt X RX3 cX3_strokesOfStrip 7 (rmA 3 81) .ireturn 10 [(0, .ref 0), (1, .int v1)] [.int s0] σ (some (.int z.1)) z.2 := by
  unfold fX3_strokesOfStrip_b10 at h
  refine Rt.istore_n [(2, _), (0, _), (1, _)] dX3_strokesOfStrip_10 (by decide) rfl ?_
  refine Rt.iload_n 0 dX3_strokesOfStrip_11 rfl ?_
  refine Rt.if_eq 22 dX3_strokesOfStrip_12 (by decide) (fun c2 => ?_) (fun c2 => ?_)
  · replace h := (if_pos c2).symm.trans h
    refine Rt.iload_n 2 dX3_strokesOfStrip_22 rfl ?_
    refine Rt.iconst 4 dX3_strokesOfStrip_23 (by decide) ?_
    refine Rt.isub dX3_strokesOfStrip_24 ?_
    refine Rt.pick [1, 0] rfl ?_
    exact wfX3_strokesOfStrip_b25 X s0 (v1 - (4 : Int32)) _ z h
  · replace h := (if_neg c2).symm.trans h
    refine Rt.bipush 6 dX3_strokesOfStrip_15 (by decide) ?_
    refine Rt.iload_n 2 dX3_strokesOfStrip_17 rfl ?_
    refine Rt.imul dX3_strokesOfStrip_18 ?_
    refine Rt.goto 25 dX3_strokesOfStrip_19 (by decide) ?_
    refine Rt.pick [1, 0] rfl ?_
    exact wfX3_strokesOfStrip_b25 X s0 ((6 : Int32) * v1) _ z h
def fX3_strokesOfStrip (v1 : Int32) (σ : Sto) : Option (Int32 × Sto) := if (4 : Int32) ≤ v1 then (fX3_strokesOfStrip_b10 v1 (0 : Int32) σ) else (fX3_strokesOfStrip_b10 v1 (1 : Int32) σ)
set_option maxRecDepth 100000 in
set_option maxHeartbeats 4000000 in
theorem wfX3_strokesOfStrip (X : Scr) (v1 : Int32) (σ : Sto) (z : Int32 × Sto) (h : fX3_strokesOfStrip v1 σ = some z) : Rt X RX3 cX3_strokesOfStrip 7 (rmA 3 81) .ireturn 0 [(0, .ref 0), (1, .int v1)] [] σ (some (.int z.1)) z.2 := by
  unfold fX3_strokesOfStrip at h
  refine Rt.iload_n 1 dX3_strokesOfStrip_0 rfl ?_
  refine Rt.iconst 4 dX3_strokesOfStrip_1 (by decide) ?_
  refine Rt.icmp_ge 9 dX3_strokesOfStrip_2 (by decide) (fun c1 => ?_) (fun c1 => ?_)
  · replace h := (if_pos c1).symm.trans h
    refine Rt.iconst 0 dX3_strokesOfStrip_9 (by decide) ?_
    exact wfX3_strokesOfStrip_b10 X v1 (0 : Int32) _ z h
  · replace h := (if_neg c1).symm.trans h
    refine Rt.iconst 1 dX3_strokesOfStrip_5 (by decide) ?_
    refine Rt.goto 10 dX3_strokesOfStrip_6 (by decide) ?_
    exact wfX3_strokesOfStrip_b10 X v1 (1 : Int32) _ z h
set_option maxRecDepth 100000 in
set_option maxHeartbeats 4000000 in
theorem mfX3_strokesOfStrip (v1 : Int32) (σ : Sto) (z : Int32 × Sto) (h : fX3_strokesOfStrip v1 σ = some z) : AM yX3_strokesOfStrip cX3_strokesOfStrip 7 (some .int) 3 81 [.ref 0, .int v1] σ (some (.int z.1)) z.2 := AM.int rfl (Nat.le_of_ble_eq_true rfl) (fun X => wfX3_strokesOfStrip X v1 σ z h)
-- fX3_strip
def fX3_strip (v1 : Int32) (σ : Sto) : Option (Int32 × Sto) := (fX3_isNot v1 (10 : Int32) σ).bind fun q1 => if q1.1 = 0 then ((fX3_strokesOfStrip v1 q1.2).bind fun q2 => some (q2.1, q2.2)) else ((fX3_refuse (-1 : Int32) q1.2).bind fun q3 => some (q3.1, q3.2))
set_option maxRecDepth 100000 in
set_option maxHeartbeats 4000000 in
theorem wfX3_strip (X : Scr) (v1 : Int32) (σ : Sto) (z : Int32 × Sto) (h : fX3_strip v1 σ = some z) : Rt X RX3 cX3_strip 2 (rmA 4 107) .ireturn 0 [(0, .ref 0), (1, .int v1)] [] σ (some (.int z.1)) z.2 := by
  unfold fX3_strip at h
  refine Rt.iload_n 1 dX3_strip_0 rfl ?_
  refine Rt.bipush 10 dX3_strip_1 (by decide) ?_
  obtain ⟨q1, e1, h⟩ := bnd h
  refine Rt.cS (mfX3_isNot v1 (10 : Int32) _ q1 e1) lkX3_75 rfl ⟨Nat.le_of_ble_eq_true rfl, Nat.le_of_ble_eq_true rfl⟩ (Nat.le_of_ble_eq_true rfl) rfl dX3_strip_3 ?_
  refine Rt.if_eq 17 dX3_strip_6 (by decide) (fun c1 => ?_) (fun c1 => ?_)
  · replace h := (if_pos c1).symm.trans h
    refine Rt.aload_n 0 dX3_strip_17 rfl ?_
    refine Rt.iload_n 1 dX3_strip_18 rfl ?_
    obtain ⟨q2, e2, h⟩ := bnd h
    refine Rt.cV (mfX3_strokesOfStrip v1 _ q2 e2) lkX3_167 ly0 rfl rfl rfl ⟨Nat.le_of_ble_eq_true rfl, Nat.le_of_ble_eq_true rfl⟩ (Nat.le_of_ble_eq_true rfl) rfl dX3_strip_19 ?_
    obtain rfl := Option.some.inj h
    exact Rt.ret (v := some (.int q2.1)) dX3_strip_22 rfl rfl rfl
  · replace h := (if_neg c1).symm.trans h
    refine Rt.aload_n 0 dX3_strip_9 rfl ?_
    refine Rt.iconst (-1) dX3_strip_10 (by decide) ?_
    obtain ⟨q3, e3, h⟩ := bnd h
    refine Rt.cV (mfX3_refuse (-1 : Int32) _ q3 e3) lkX3_57 ly0 rfl rfl rfl ⟨Nat.le_of_ble_eq_true rfl, Nat.le_of_ble_eq_true rfl⟩ (Nat.le_of_ble_eq_true rfl) rfl dX3_strip_11 ?_
    refine Rt.goto 22 dX3_strip_14 (by decide) ?_
    obtain rfl := Option.some.inj h
    exact Rt.ret (v := some (.int q3.1)) dX3_strip_22 rfl rfl rfl
set_option maxRecDepth 100000 in
set_option maxHeartbeats 4000000 in
theorem mfX3_strip (v1 : Int32) (σ : Sto) (z : Int32 × Sto) (h : fX3_strip v1 σ = some z) : AM yX3_strip cX3_strip 2 (some .int) 4 107 [.ref 0, .int v1] σ (some (.int z.1)) z.2 := AM.int rfl (Nat.le_of_ble_eq_true rfl) (fun X => wfX3_strip X v1 σ z h)
-- fX3_bestStrip
def fX3_bestStrip_b39 (k8 : Int32 → Int32 → Int32 → Sto → Option (Int32 × Sto)) (v1 : Int32) (v2 : Int32) (v3 : Int32) (σ : Sto) : Option (Int32 × Sto) := k8 v1 v2 (v3 + (1 : Int32)) σ
set_option maxRecDepth 100000 in
set_option maxHeartbeats 4000000 in
theorem wfX3_bestStrip_b39 (X : Scr) (k8 : Int32 → Int32 → Int32 → Sto → Option (Int32 × Sto)) (hk8 : ∀ (v1 : Int32) (v2 : Int32) (v3 : Int32) (σ : Sto) (z : Int32 × Sto), k8 v1 v2 v3 σ = some z → Rt X RX3 cX3_bestStrip 5 (rmA 4 107) .ireturn 8 [(0, .ref 0), (1, .int v1), (2, .int v2), (3, .int v3)] [] σ (some (.int z.1)) z.2) (v1 : Int32) (v2 : Int32) (v3 : Int32) (σ : Sto) (z : Int32 × Sto) (h : fX3_bestStrip_b39 k8 v1 v2 v3 σ = some z) : Rt X RX3 cX3_bestStrip 5 (rmA 4 107) .ireturn 39 [(0, .ref 0), (1, .int v1), (2, .int v2), (3, .int v3)] [] σ (some (.int z.1)) z.2 := by
  unfold fX3_bestStrip_b39 at h
  refine Rt.iinc [(3, _), (0, _), (1, _), (2, _)] (v3 + (1 : Int32)) 3 dX3_bestStrip_39 rfl rfl (by decide) rfl ?_
  refine Rt.goto 8 dX3_bestStrip_42 (by decide) ?_
  refine Rt.pick [1, 2, 3, 0] rfl ?_
  exact hk8 v1 v2 (v3 + (1 : Int32)) _ z h
def fX3_bestStrip_l8 : Nat → Int32 → Int32 → Int32 → Sto → Option (Int32 × Sto)
  | 0, _, _, _, _ => none
  | n + 1, v1, v2, v3, σ => if (10 : Int32) ≤ v3 then (some (v1, σ)) else ((fX3_strokesOfStrip v3 σ).bind fun q1 => if q1.1 = (-9 : Int32) then (fX3_bestStrip_b39 (fun a0 a1 a2 s => fX3_bestStrip_l8 n a0 a1 a2 s) v1 v2 v3 q1.2) else (if v2 ≤ q1.1 then (fX3_bestStrip_b39 (fun a0 a1 a2 s => fX3_bestStrip_l8 n a0 a1 a2 s) v1 v2 v3 q1.2) else (fX3_bestStrip_b39 (fun a0 a1 a2 s => fX3_bestStrip_l8 n a0 a1 a2 s) v3 q1.1 v3 q1.2)))
set_option maxRecDepth 100000 in
set_option maxHeartbeats 4000000 in
theorem wfX3_bestStrip_l8 (X : Scr) : ∀ (n : Nat) (v1 : Int32) (v2 : Int32) (v3 : Int32) (σ : Sto) (z : Int32 × Sto), fX3_bestStrip_l8 n v1 v2 v3 σ = some z → Rt X RX3 cX3_bestStrip 5 (rmA 4 107) .ireturn 8 [(0, .ref 0), (1, .int v1), (2, .int v2), (3, .int v3)] [] σ (some (.int z.1)) z.2 := by
  intro n
  induction n with
  | zero =>
    intro v1 v2 v3 σ z h
    rw [fX3_bestStrip_l8] at h
    cases h
  | succ n ih =>
    intro v1 v2 v3 σ z h
    rw [fX3_bestStrip_l8] at h
    refine Rt.iload_n 3 dX3_bestStrip_8 rfl ?_
    refine Rt.bipush 10 dX3_bestStrip_9 (by decide) ?_
    refine Rt.icmp_ge 45 dX3_bestStrip_11 (by decide) (fun c1 => ?_) (fun c1 => ?_)
    · replace h := (if_pos c1).symm.trans h
      refine Rt.iload_n 1 dX3_bestStrip_45 rfl ?_
      obtain rfl := Option.some.inj h
      exact Rt.ret (v := some (.int v1)) dX3_bestStrip_46 rfl rfl rfl
    · replace h := (if_neg c1).symm.trans h
      refine Rt.aload_n 0 dX3_bestStrip_14 rfl ?_
      refine Rt.iload_n 3 dX3_bestStrip_15 rfl ?_
      obtain ⟨q1, e1, h⟩ := bnd h
      refine Rt.cV (mfX3_strokesOfStrip v3 _ q1 e1) lkX3_167 ly0 rfl rfl rfl ⟨Nat.le_of_ble_eq_true rfl, Nat.le_of_ble_eq_true rfl⟩ (Nat.le_of_ble_eq_true rfl) rfl dX3_bestStrip_16 ?_
      refine Rt.istore [(4, _), (0, _), (1, _), (2, _), (3, _)] dX3_bestStrip_19 (by decide) rfl ?_
      refine Rt.iload 0 dX3_bestStrip_21 rfl ?_
      refine Rt.bipush (-9) dX3_bestStrip_23 (by decide) ?_
      refine Rt.icmp_eq 39 dX3_bestStrip_25 (by decide) (fun c2 => ?_) (fun c2 => ?_)
      · replace h := (if_pos c2).symm.trans h
        refine Rt.pick [1, 2, 3, 4] rfl ?_
        exact wfX3_bestStrip_b39 X (fun a0 a1 a2 s => fX3_bestStrip_l8 n a0 a1 a2 s) ih v1 v2 v3 _ z h
      · replace h := (if_neg c2).symm.trans h
        refine Rt.iload 0 dX3_bestStrip_28 rfl ?_
        refine Rt.iload_n 3 dX3_bestStrip_30 rfl ?_
        refine Rt.icmp_ge 39 dX3_bestStrip_31 (by decide) (fun c3 => ?_) (fun c3 => ?_)
        · replace h := (if_pos c3).symm.trans h
          refine Rt.pick [1, 2, 3, 4] rfl ?_
          exact wfX3_bestStrip_b39 X (fun a0 a1 a2 s => fX3_bestStrip_l8 n a0 a1 a2 s) ih v1 v2 v3 _ z h
        · replace h := (if_neg c3).symm.trans h
          refine Rt.iload 0 dX3_bestStrip_34 rfl ?_
          refine Rt.istore_n [(2, _), (4, _), (0, _), (1, _), (3, _)] dX3_bestStrip_36 (by decide) rfl ?_
          refine Rt.iload_n 4 dX3_bestStrip_37 rfl ?_
          refine Rt.istore_n [(1, _), (2, _), (4, _), (0, _), (3, _)] dX3_bestStrip_38 (by decide) rfl ?_
          refine Rt.pick [3, 0, 1, 4] rfl ?_
          exact wfX3_bestStrip_b39 X (fun a0 a1 a2 s => fX3_bestStrip_l8 n a0 a1 a2 s) ih v3 q1.1 v3 _ z h
def fX3_bestStrip (σ : Sto) : Option (Int32 × Sto) := fX3_bestStrip_l8 300 (-9 : Int32) (24 : Int32) (0 : Int32) σ
set_option maxRecDepth 100000 in
set_option maxHeartbeats 4000000 in
theorem wfX3_bestStrip (X : Scr) (σ : Sto) (z : Int32 × Sto) (h : fX3_bestStrip σ = some z) : Rt X RX3 cX3_bestStrip 5 (rmA 4 107) .ireturn 0 [(0, .ref 0)] [] σ (some (.int z.1)) z.2 := by
  unfold fX3_bestStrip at h
  refine Rt.bipush (-9) dX3_bestStrip_0 (by decide) ?_
  refine Rt.istore_n [(1, _), (0, _)] dX3_bestStrip_2 (by decide) rfl ?_
  refine Rt.bipush 24 dX3_bestStrip_3 (by decide) ?_
  refine Rt.istore_n [(2, _), (1, _), (0, _)] dX3_bestStrip_5 (by decide) rfl ?_
  refine Rt.iconst 0 dX3_bestStrip_6 (by decide) ?_
  refine Rt.istore_n [(3, _), (2, _), (1, _), (0, _)] dX3_bestStrip_7 (by decide) rfl ?_
  refine Rt.pick [3, 2, 1, 0] rfl ?_
  exact wfX3_bestStrip_l8 X 300 (-9 : Int32) (24 : Int32) (0 : Int32) _ z h
set_option maxRecDepth 100000 in
set_option maxHeartbeats 4000000 in
theorem mfX3_bestStrip (σ : Sto) (z : Int32 × Sto) (h : fX3_bestStrip σ = some z) : AM yX3_bestStrip cX3_bestStrip 5 (some .int) 4 107 [.ref 0] σ (some (.int z.1)) z.2 := AM.int rfl (Nat.le_of_ble_eq_true rfl) (fun X => wfX3_bestStrip X σ z h)
-- fX3_canBeGone
def fX3_canBeGone_l61 : Nat → Int32 → Sto → Option (Int32 × Sto)
  | 0, _, _ => none
  | n + 1, v2, σ => if (24 : Int32) ≤ v2 then (some ((0 : Int32), σ)) else ((fX0_take 7 5 σ).bind fun q1 => (fX0_strokeOn 7 v2 q1.2).bind fun q2 => (fX0_strokeOn 7 (q2.2 7 2) q2.2).bind fun q3 => if (q3.2 7 2) = (24 : Int32) then (some ((1 : Int32), q3.2)) else (fX3_canBeGone_l61 n (v2 + (1 : Int32)) q3.2))
set_option maxRecDepth 100000 in
set_option maxHeartbeats 4000000 in
theorem wfX3_canBeGone_l61 (X : Scr) : ∀ (n : Nat) (v2 : Int32) (σ : Sto) (z : Int32 × Sto), fX3_canBeGone_l61 n v2 σ = some z → Rt X RX3 cX3_canBeGone 3 (rmA 3 81) .ireturn 61 [(0, .ref 0), (2, .int v2)] [] σ (some (.int z.1)) z.2 := by
  intro n
  induction n with
  | zero =>
    intro v2 σ z h
    rw [fX3_canBeGone_l61] at h
    cases h
  | succ n ih =>
    intro v2 σ z h
    rw [fX3_canBeGone_l61] at h
    refine Rt.iload_n 1 dX3_canBeGone_61 rfl ?_
    refine Rt.bipush 24 dX3_canBeGone_62 (by decide) ?_
    refine Rt.icmp_ge 120 dX3_canBeGone_64 (by decide) (fun c3 => ?_) (fun c3 => ?_)
    · replace h := (if_pos c3).symm.trans h
      refine Rt.iconst 0 dX3_canBeGone_120 (by decide) ?_
      obtain rfl := Option.some.inj h
      exact Rt.ret (v := some (.int (0 : Int32))) dX3_canBeGone_121 rfl rfl rfl
    · replace h := (if_neg c3).symm.trans h
      refine Rt.aload_n 0 dX3_canBeGone_67 rfl ?_
      refine gfX3_22 ly0 dX3_canBeGone_68 ?_
      refine Rt.aload_n 0 dX3_canBeGone_71 rfl ?_
      refine gfX3_19 ly0 dX3_canBeGone_72 ?_
      obtain ⟨q1, e1, h⟩ := bnd h
      refine Rt.cVN0 (mfX0_take 7 bk7 5 bk5 _ q1 e1) lkX3_67 bk7.1 rfl rfl rfl ⟨Nat.le_of_ble_eq_true rfl, Nat.le_of_ble_eq_true rfl⟩ (Nat.le_of_ble_eq_true rfl) rfl dX3_canBeGone_75 ?_
      refine Rt.aload_n 0 dX3_canBeGone_78 rfl ?_
      refine gfX3_22 ly0 dX3_canBeGone_79 ?_
      refine Rt.iload_n 1 dX3_canBeGone_82 rfl ?_
      obtain ⟨q2, e2, h⟩ := bnd h
      refine Rt.cVN0 (mfX0_strokeOn 7 bk7 v2 _ q2 e2) lkX3_109 bk7.1 rfl rfl rfl ⟨Nat.le_of_ble_eq_true rfl, Nat.le_of_ble_eq_true rfl⟩ (Nat.le_of_ble_eq_true rfl) rfl dX3_canBeGone_83 ?_
      refine Rt.aload_n 0 dX3_canBeGone_86 rfl ?_
      refine gfX3_22 ly0 dX3_canBeGone_87 ?_
      refine Rt.aload_n 0 dX3_canBeGone_90 rfl ?_
      refine gfX3_22 ly0 dX3_canBeGone_91 ?_
      refine gfX3_82 bk7.1 dX3_canBeGone_94 ?_
      obtain ⟨q3, e3, h⟩ := bnd h
      refine Rt.cVN0 (mfX0_strokeOn 7 bk7 (q2.2 7 2) _ q3 e3) lkX3_109 bk7.1 rfl rfl rfl ⟨Nat.le_of_ble_eq_true rfl, Nat.le_of_ble_eq_true rfl⟩ (Nat.le_of_ble_eq_true rfl) rfl dX3_canBeGone_97 ?_
      refine Rt.aload_n 0 dX3_canBeGone_100 rfl ?_
      refine gfX3_22 ly0 dX3_canBeGone_101 ?_
      refine gfX3_82 bk7.1 dX3_canBeGone_104 ?_
      refine Rt.bipush 24 dX3_canBeGone_107 (by decide) ?_
      refine Rt.icmp_ne 114 dX3_canBeGone_109 (by decide) (fun c4 => ?_) (fun c4 => ?_)
      · replace h := (if_neg c4).symm.trans h
        refine Rt.iinc [(2, _), (0, _)] (v2 + (1 : Int32)) 1 dX3_canBeGone_114 rfl rfl (by decide) rfl ?_
        refine Rt.goto 61 dX3_canBeGone_117 (by decide) ?_
        refine Rt.pick [1, 0] rfl ?_
        exact ih (v2 + (1 : Int32)) _ z h
      · replace h := (if_pos c4).symm.trans h
        refine Rt.iconst 1 dX3_canBeGone_112 (by decide) ?_
        obtain rfl := Option.some.inj h
        exact Rt.ret (v := some (.int (1 : Int32))) dX3_canBeGone_113 rfl rfl rfl
def fX3_canBeGone_e (v1 : Int32) (σ : Sto) : Option (Int32 × Sto) := if 0 < v1 then (if v1 = (1 : Int32) then ((fX0_strokeOn 5 (σ 5 2) σ).bind fun q4 => if (q4.2 5 2) = (24 : Int32) then (some ((1 : Int32), q4.2)) else (some ((0 : Int32), q4.2))) else (fX3_canBeGone_l61 300 (0 : Int32) σ)) else (if (σ 5 2) = (24 : Int32) then (some ((1 : Int32), σ)) else (some ((0 : Int32), σ)))
set_option maxRecDepth 100000 in
set_option maxHeartbeats 4000000 in
theorem wfX3_canBeGone_e (X : Scr) (v1 : Int32) (σ : Sto) (z : Int32 × Sto) (h : fX3_canBeGone_e v1 σ = some z) : Rt X RX3 cX3_canBeGone 3 (rmA 3 81) .ireturn 0 [(0, .ref 0), (1, .int v1)] [] σ (some (.int z.1)) z.2 := by
  unfold fX3_canBeGone_e at h
  refine Rt.iload_n 1 dX3_canBeGone_0 rfl ?_
  refine Rt.if_gt 22 dX3_canBeGone_1 (by decide) (fun c1 => ?_) (fun c1 => ?_)
  · replace h := (if_pos c1).symm.trans h
    refine Rt.iload_n 1 dX3_canBeGone_22 rfl ?_
    refine Rt.iconst 1 dX3_canBeGone_23 (by decide) ?_
    refine Rt.icmp_ne 59 dX3_canBeGone_24 (by decide) (fun c2 => ?_) (fun c2 => ?_)
    · replace h := (if_neg c2).symm.trans h
      refine Rt.iconst 0 dX3_canBeGone_59 (by decide) ?_
      refine Rt.istore_n [(2, _), (0, _), (1, _)] dX3_canBeGone_60 (by decide) rfl ?_
      refine Rt.pick [1, 0] rfl ?_
      exact wfX3_canBeGone_l61 X 300 (0 : Int32) _ z h
    · replace h := (if_pos c2).symm.trans h
      refine Rt.aload_n 0 dX3_canBeGone_27 rfl ?_
      refine gfX3_19 ly0 dX3_canBeGone_28 ?_
      refine Rt.aload_n 0 dX3_canBeGone_31 rfl ?_
      refine gfX3_19 ly0 dX3_canBeGone_32 ?_
      refine gfX3_82 bk5.1 dX3_canBeGone_35 ?_
      obtain ⟨q4, e4, h⟩ := bnd h
      refine Rt.cVN0 (mfX0_strokeOn 5 bk5 (σ 5 2) _ q4 e4) lkX3_109 bk5.1 rfl rfl rfl ⟨Nat.le_of_ble_eq_true rfl, Nat.le_of_ble_eq_true rfl⟩ (Nat.le_of_ble_eq_true rfl) rfl dX3_canBeGone_38 ?_
      refine Rt.aload_n 0 dX3_canBeGone_41 rfl ?_
      refine gfX3_19 ly0 dX3_canBeGone_42 ?_
      refine gfX3_82 bk5.1 dX3_canBeGone_45 ?_
      refine Rt.bipush 24 dX3_canBeGone_48 (by decide) ?_
      refine Rt.icmp_ne 57 dX3_canBeGone_50 (by decide) (fun c5 => ?_) (fun c5 => ?_)
      · replace h := (if_neg c5).symm.trans h
        refine Rt.iconst 0 dX3_canBeGone_57 (by decide) ?_
        obtain rfl := Option.some.inj h
        exact Rt.ret (v := some (.int (0 : Int32))) dX3_canBeGone_58 rfl rfl rfl
      · replace h := (if_pos c5).symm.trans h
        refine Rt.iconst 1 dX3_canBeGone_53 (by decide) ?_
        refine Rt.goto 58 dX3_canBeGone_54 (by decide) ?_
        obtain rfl := Option.some.inj h
        exact Rt.ret (v := some (.int (1 : Int32))) dX3_canBeGone_58 rfl rfl rfl
  · replace h := (if_neg c1).symm.trans h
    refine Rt.aload_n 0 dX3_canBeGone_4 rfl ?_
    refine gfX3_19 ly0 dX3_canBeGone_5 ?_
    refine gfX3_82 bk5.1 dX3_canBeGone_8 ?_
    refine Rt.bipush 24 dX3_canBeGone_11 (by decide) ?_
    refine Rt.icmp_ne 20 dX3_canBeGone_13 (by decide) (fun c6 => ?_) (fun c6 => ?_)
    · replace h := (if_neg c6).symm.trans h
      refine Rt.iconst 0 dX3_canBeGone_20 (by decide) ?_
      obtain rfl := Option.some.inj h
      exact Rt.ret (v := some (.int (0 : Int32))) dX3_canBeGone_21 rfl rfl rfl
    · replace h := (if_pos c6).symm.trans h
      refine Rt.iconst 1 dX3_canBeGone_16 (by decide) ?_
      refine Rt.goto 21 dX3_canBeGone_17 (by decide) ?_
      obtain rfl := Option.some.inj h
      exact Rt.ret (v := some (.int (1 : Int32))) dX3_canBeGone_21 rfl rfl rfl
def fX3_canBeGone (v1 : Int32) (σ : Sto) : Option (Int32 × Sto) := (fX3_canBeGone_e v1 σ).bind chkZ
set_option maxRecDepth 100000 in
set_option maxHeartbeats 4000000 in
theorem mfX3_canBeGone (v1 : Int32) (σ : Sto) (z : Int32 × Sto) (h : fX3_canBeGone v1 σ = some z) : AM yX3_canBeGone cX3_canBeGone 3 (some .boolean) 3 81 [.ref 0, .int v1] σ (some (.int z.1)) z.2 := by
  obtain ⟨hz, h⟩ := chkZ_ok h
  exact AM.bool hz rfl (Nat.le_of_ble_eq_true rfl) (fun X => wfX3_canBeGone_e X v1 σ z h)
