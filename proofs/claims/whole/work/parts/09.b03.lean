-- fX3_firstOf
def fX3_firstOf_l2 : Nat → Int32 → Int32 → Sto → Option (Int32 × Sto)
  | 0, _, _, _ => none
  | n + 1, v1, v2, σ => if (24 : Int32) ≤ v2 then (some ((-9 : Int32), σ)) else ((fX0_take 5 1 σ).bind fun q1 => (fX0_strokeOn 5 v2 q1.2).bind fun q2 => (fX3_canBeGone (v1 - (1 : Int32)) q2.2).bind fun q3 => if q3.1 = 0 then (fX3_firstOf_l2 n v1 (v2 + (1 : Int32)) q3.2) else (some (v2, q3.2)))
set_option maxRecDepth 100000 in
set_option maxHeartbeats 4000000 in
theorem wfX3_firstOf_l2 (X : Scr) : ∀ (n : Nat) (v1 : Int32) (v2 : Int32) (σ : Sto) (z : Int32 × Sto), fX3_firstOf_l2 n v1 v2 σ = some z → Rt X RX3 cX3_firstOf 3 (rmA 4 103) .ireturn 2 [(0, .ref 0), (1, .int v1), (2, .int v2)] [] σ (some (.int z.1)) z.2 := by
  intro n
  induction n with
  | zero =>
    intro v1 v2 σ z h
    rw [fX3_firstOf_l2] at h
    cases h
  | succ n ih =>
    intro v1 v2 σ z h
    rw [fX3_firstOf_l2] at h
    refine Rt.iload_n 2 dX3_firstOf_2 rfl ?_
    refine Rt.bipush 24 dX3_firstOf_3 (by decide) ?_
    refine Rt.icmp_ge 45 dX3_firstOf_5 (by decide) (fun c1 => ?_) (fun c1 => ?_)
    · replace h := (if_pos c1).symm.trans h
      refine Rt.bipush (-9) dX3_firstOf_45 (by decide) ?_
      obtain rfl := Option.some.inj h
      exact Rt.ret (v := some (.int (-9 : Int32))) dX3_firstOf_47 rfl rfl rfl
    · replace h := (if_neg c1).symm.trans h
      refine Rt.aload_n 0 dX3_firstOf_8 rfl ?_
      refine gfX3_19 ly0 dX3_firstOf_9 ?_
      refine Rt.aload_n 0 dX3_firstOf_12 rfl ?_
      refine gfX3_10 ly0 dX3_firstOf_13 ?_
      obtain ⟨q1, e1, h⟩ := bnd h
      refine Rt.cVN0 (mfX0_take 5 bk5 1 bk1 _ q1 e1) lkX3_67 bk5.1 rfl rfl rfl ⟨Nat.le_of_ble_eq_true rfl, Nat.le_of_ble_eq_true rfl⟩ (Nat.le_of_ble_eq_true rfl) rfl dX3_firstOf_16 ?_
      refine Rt.aload_n 0 dX3_firstOf_19 rfl ?_
      refine gfX3_19 ly0 dX3_firstOf_20 ?_
      refine Rt.iload_n 2 dX3_firstOf_23 rfl ?_
      obtain ⟨q2, e2, h⟩ := bnd h
      refine Rt.cVN0 (mfX0_strokeOn 5 bk5 v2 _ q2 e2) lkX3_109 bk5.1 rfl rfl rfl ⟨Nat.le_of_ble_eq_true rfl, Nat.le_of_ble_eq_true rfl⟩ (Nat.le_of_ble_eq_true rfl) rfl dX3_firstOf_24 ?_
      refine Rt.aload_n 0 dX3_firstOf_27 rfl ?_
      refine Rt.iload_n 1 dX3_firstOf_28 rfl ?_
      refine Rt.iconst 1 dX3_firstOf_29 (by decide) ?_
      refine Rt.isub dX3_firstOf_30 ?_
      obtain ⟨q3, e3, h⟩ := bnd h
      refine Rt.cV (mfX3_canBeGone (v1 - (1 : Int32)) _ q3 e3) lkX3_208 ly0 rfl rfl rfl ⟨Nat.le_of_ble_eq_true rfl, Nat.le_of_ble_eq_true rfl⟩ (Nat.le_of_ble_eq_true rfl) rfl dX3_firstOf_31 ?_
      refine Rt.if_eq 39 dX3_firstOf_34 (by decide) (fun c2 => ?_) (fun c2 => ?_)
      · replace h := (if_pos c2).symm.trans h
        refine Rt.iinc [(2, _), (0, _), (1, _)] (v2 + (1 : Int32)) 2 dX3_firstOf_39 rfl rfl (by decide) rfl ?_
        refine Rt.goto 2 dX3_firstOf_42 (by decide) ?_
        refine Rt.pick [1, 2, 0] rfl ?_
        exact ih v1 (v2 + (1 : Int32)) _ z h
      · replace h := (if_neg c2).symm.trans h
        refine Rt.iload_n 2 dX3_firstOf_37 rfl ?_
        obtain rfl := Option.some.inj h
        exact Rt.ret (v := some (.int v2)) dX3_firstOf_38 rfl rfl rfl
def fX3_firstOf (v1 : Int32) (σ : Sto) : Option (Int32 × Sto) := fX3_firstOf_l2 300 v1 (0 : Int32) σ
set_option maxRecDepth 100000 in
set_option maxHeartbeats 4000000 in
theorem wfX3_firstOf (X : Scr) (v1 : Int32) (σ : Sto) (z : Int32 × Sto) (h : fX3_firstOf v1 σ = some z) : Rt X RX3 cX3_firstOf 3 (rmA 4 103) .ireturn 0 [(0, .ref 0), (1, .int v1)] [] σ (some (.int z.1)) z.2 := by
  unfold fX3_firstOf at h
  refine Rt.iconst 0 dX3_firstOf_0 (by decide) ?_
  refine Rt.istore_n [(2, _), (0, _), (1, _)] dX3_firstOf_1 (by decide) rfl ?_
  refine Rt.pick [1, 2, 0] rfl ?_
  exact wfX3_firstOf_l2 X 300 v1 (0 : Int32) _ z h
set_option maxRecDepth 100000 in
set_option maxHeartbeats 4000000 in
theorem mfX3_firstOf (v1 : Int32) (σ : Sto) (z : Int32 × Sto) (h : fX3_firstOf v1 σ = some z) : AM yX3_firstOf cX3_firstOf 3 (some .int) 4 103 [.ref 0, .int v1] σ (some (.int z.1)) z.2 := AM.int rfl (Nat.le_of_ble_eq_true rfl) (fun X => wfX3_firstOf X v1 σ z h)
-- fX3_fewest
def fX3_fewest_l40 : Nat → Int32 → Int32 → Sto → Option (Int32 × Sto)
  | 0, _, _, _ => none
  | n + 1, v1, v2, σ => if (3 : Int32) < v2 then (some ((-9 : Int32), σ)) else ((fX3_firstOf v2 σ).bind fun q2 => if q2.1 = (-9 : Int32) then (fX3_fewest_l40 n v1 (v2 + (1 : Int32)) q2.2) else (if v1 = 0 then (some (v2, q2.2)) else (some (q2.1, q2.2))))
set_option maxRecDepth 100000 in
set_option maxHeartbeats 4000000 in
theorem wfX3_fewest_l40 (X : Scr) : ∀ (n : Nat) (v1 : Int32) (v2 : Int32) (σ : Sto) (z : Int32 × Sto), fX3_fewest_l40 n v1 v2 σ = some z → Rt X RX3 cX3_fewest 4 (rmA 5 125) .ireturn 40 [(0, .ref 0), (1, .int v1), (2, .int v2)] [] σ (some (.int z.1)) z.2 := by
  intro n
  induction n with
  | zero =>
    intro v1 v2 σ z h
    rw [fX3_fewest_l40] at h
    cases h
  | succ n ih =>
    intro v1 v2 σ z h
    rw [fX3_fewest_l40] at h
    refine Rt.iload_n 2 dX3_fewest_40 rfl ?_
    refine Rt.iconst 3 dX3_fewest_41 (by decide) ?_
    refine Rt.icmp_gt 73 dX3_fewest_42 (by decide) (fun c3 => ?_) (fun c3 => ?_)
    · replace h := (if_pos c3).symm.trans h
      refine Rt.bipush (-9) dX3_fewest_73 (by decide) ?_
      obtain rfl := Option.some.inj h
      exact Rt.ret (v := some (.int (-9 : Int32))) dX3_fewest_75 rfl rfl rfl
    · replace h := (if_neg c3).symm.trans h
      refine Rt.aload_n 0 dX3_fewest_45 rfl ?_
      refine Rt.iload_n 2 dX3_fewest_46 rfl ?_
      obtain ⟨q2, e2, h⟩ := bnd h
      refine Rt.cV (mfX3_firstOf v2 _ q2 e2) lkX3_170 ly0 rfl rfl rfl ⟨Nat.le_of_ble_eq_true rfl, Nat.le_of_ble_eq_true rfl⟩ (Nat.le_of_ble_eq_true rfl) rfl dX3_fewest_47 ?_
      refine Rt.istore_n [(3, _), (0, _), (1, _), (2, _)] dX3_fewest_50 (by decide) rfl ?_
      refine Rt.iload_n 0 dX3_fewest_51 rfl ?_
      refine Rt.bipush (-9) dX3_fewest_52 (by decide) ?_
      refine Rt.icmp_eq 67 dX3_fewest_54 (by decide) (fun c4 => ?_) (fun c4 => ?_)
      · replace h := (if_pos c4).symm.trans h
        refine Rt.iinc [(2, _), (3, _), (0, _), (1, _)] (v2 + (1 : Int32)) 3 dX3_fewest_67 rfl rfl (by decide) rfl ?_
        refine Rt.goto 40 dX3_fewest_70 (by decide) ?_
        refine Rt.pick [2, 3, 0] rfl ?_
        exact ih v1 (v2 + (1 : Int32)) _ z h
      · replace h := (if_neg c4).symm.trans h
        refine Rt.iload_n 2 dX3_fewest_57 rfl ?_
        refine Rt.if_ne 65 dX3_fewest_58 (by decide) (fun c5 => ?_) (fun c5 => ?_)
        · replace h := (if_neg c5).symm.trans h
          refine Rt.iload_n 0 dX3_fewest_65 rfl ?_
          obtain rfl := Option.some.inj h
          exact Rt.ret (v := some (.int q2.1)) dX3_fewest_66 rfl rfl rfl
        · replace h := (if_pos c5).symm.trans h
          refine Rt.iload_n 3 dX3_fewest_61 rfl ?_
          refine Rt.goto 66 dX3_fewest_62 (by decide) ?_
          obtain rfl := Option.some.inj h
          exact Rt.ret (v := some (.int v2)) dX3_fewest_66 rfl rfl rfl
def fX3_fewest (v1 : Int32) (σ : Sto) : Option (Int32 × Sto) := (fX3_isNot v1 (2 : Int32) σ).bind fun q1 => if q1.1 = 0 then (if (q1.2 1 2) = (24 : Int32) then (if v1 = 0 then (some ((0 : Int32), q1.2)) else (some ((-9 : Int32), q1.2))) else (fX3_fewest_l40 300 v1 (1 : Int32) q1.2)) else ((fX3_refuse (-2 : Int32) q1.2).bind fun q3 => some (q3.1, q3.2))
set_option maxRecDepth 100000 in
set_option maxHeartbeats 4000000 in
theorem wfX3_fewest (X : Scr) (v1 : Int32) (σ : Sto) (z : Int32 × Sto) (h : fX3_fewest v1 σ = some z) : Rt X RX3 cX3_fewest 4 (rmA 5 125) .ireturn 0 [(0, .ref 0), (1, .int v1)] [] σ (some (.int z.1)) z.2 := by
  unfold fX3_fewest at h
  refine Rt.iload_n 1 dX3_fewest_0 rfl ?_
  refine Rt.iconst 2 dX3_fewest_1 (by decide) ?_
  obtain ⟨q1, e1, h⟩ := bnd h
  refine Rt.cS (mfX3_isNot v1 (2 : Int32) _ q1 e1) lkX3_75 rfl ⟨Nat.le_of_ble_eq_true rfl, Nat.le_of_ble_eq_true rfl⟩ (Nat.le_of_ble_eq_true rfl) rfl dX3_fewest_2 ?_
  refine Rt.if_eq 15 dX3_fewest_5 (by decide) (fun c1 => ?_) (fun c1 => ?_)
  · replace h := (if_pos c1).symm.trans h
    refine Rt.aload_n 0 dX3_fewest_15 rfl ?_
    refine gfX3_10 ly0 dX3_fewest_16 ?_
    refine gfX3_82 bk1.1 dX3_fewest_19 ?_
    refine Rt.bipush 24 dX3_fewest_22 (by decide) ?_
    refine Rt.icmp_ne 38 dX3_fewest_24 (by decide) (fun c2 => ?_) (fun c2 => ?_)
    · replace h := (if_neg c2).symm.trans h
      refine Rt.iconst 1 dX3_fewest_38 (by decide) ?_
      refine Rt.istore_n [(2, _), (0, _), (1, _)] dX3_fewest_39 (by decide) rfl ?_
      refine Rt.pick [1, 2, 0] rfl ?_
      exact wfX3_fewest_l40 X 300 v1 (1 : Int32) _ z h
    · replace h := (if_pos c2).symm.trans h
      refine Rt.iload_n 1 dX3_fewest_27 rfl ?_
      refine Rt.if_ne 35 dX3_fewest_28 (by decide) (fun c6 => ?_) (fun c6 => ?_)
      · replace h := (if_neg c6).symm.trans h
        refine Rt.bipush (-9) dX3_fewest_35 (by decide) ?_
        obtain rfl := Option.some.inj h
        exact Rt.ret (v := some (.int (-9 : Int32))) dX3_fewest_37 rfl rfl rfl
      · replace h := (if_pos c6).symm.trans h
        refine Rt.iconst 0 dX3_fewest_31 (by decide) ?_
        refine Rt.goto 37 dX3_fewest_32 (by decide) ?_
        obtain rfl := Option.some.inj h
        exact Rt.ret (v := some (.int (0 : Int32))) dX3_fewest_37 rfl rfl rfl
  · replace h := (if_neg c1).symm.trans h
    refine Rt.aload_n 0 dX3_fewest_8 rfl ?_
    refine Rt.bipush (-2) dX3_fewest_9 (by decide) ?_
    obtain ⟨q3, e3, h⟩ := bnd h
    refine Rt.cV (mfX3_refuse (-2 : Int32) _ q3 e3) lkX3_57 ly0 rfl rfl rfl ⟨Nat.le_of_ble_eq_true rfl, Nat.le_of_ble_eq_true rfl⟩ (Nat.le_of_ble_eq_true rfl) rfl dX3_fewest_11 ?_
    obtain rfl := Option.some.inj h
    exact Rt.ret (v := some (.int q3.1)) dX3_fewest_14 rfl rfl rfl
set_option maxRecDepth 100000 in
set_option maxHeartbeats 4000000 in
theorem mfX3_fewest (v1 : Int32) (σ : Sto) (z : Int32 × Sto) (h : fX3_fewest v1 σ = some z) : AM yX3_fewest cX3_fewest 4 (some .int) 5 125 [.ref 0, .int v1] σ (some (.int z.1)) z.2 := AM.int rfl (Nat.le_of_ble_eq_true rfl) (fun X => wfX3_fewest X v1 σ z h)
-- fX0_soreAround
def fX0_soreAround_b28 (k4 : Int32 → Int32 → Int32 → Sto → Option (Int32 × Sto)) (k : Nat) (v1 : Int32) (v2 : Int32) (v3 : Int32) (σ : Sto) : Option (Int32 × Sto) := k4 v1 v2 (v3 + (1 : Int32)) σ
set_option maxRecDepth 100000 in
set_option maxHeartbeats 4000000 in
theorem wfX0_soreAround_b28 (X : Scr) (k : Nat) (hk : bk k) (k4 : Int32 → Int32 → Int32 → Sto → Option (Int32 × Sto)) (hk4 : ∀ (v1 : Int32) (v2 : Int32) (v3 : Int32) (σ : Sto) (z : Int32 × Sto), k4 v1 v2 v3 σ = some z → Rt X RX0 cX0_soreAround 4 (rmA 2 42) .ireturn 4 [(0, .ref k), (1, .int v1), (2, .int v2), (3, .int v3)] [] σ (some (.int z.1)) z.2) (v1 : Int32) (v2 : Int32) (v3 : Int32) (σ : Sto) (z : Int32 × Sto) (h : fX0_soreAround_b28 k4 k v1 v2 v3 σ = some z) : Rt X RX0 cX0_soreAround 4 (rmA 2 42) .ireturn 28 [(0, .ref k), (1, .int v1), (2, .int v2), (3, .int v3)] [] σ (some (.int z.1)) z.2 := by
  unfold fX0_soreAround_b28 at h
  refine Rt.iinc [(3, _), (0, _), (1, _), (2, _)] (v3 + (1 : Int32)) 3 dX0_soreAround_28 rfl rfl (by decide) rfl ?_
  refine Rt.goto 4 dX0_soreAround_31 (by decide) ?_
  refine Rt.pick [1, 2, 3, 0] rfl ?_
  exact hk4 v1 v2 (v3 + (1 : Int32)) _ z h
def fX0_soreAround_l4 (k : Nat) : Nat → Int32 → Int32 → Int32 → Sto → Option (Int32 × Sto)
  | 0, _, _, _, _ => none
  | n + 1, v1, v2, v3, σ => if (24 : Int32) ≤ v3 then (some (v2, σ)) else ((fX3_farApart v1 v3 σ).bind fun q1 => if q1.1 = (1 : Int32) then (if inb v3 24 = true then (fX0_soreAround_b28 (fun a0 a1 a2 s => fX0_soreAround_l4 k n a0 a1 a2 s) k v1 (v2 + (q1.2 (k + 1) (v3).toNatClampNeg)) v3 q1.2) else none) else (fX0_soreAround_b28 (fun a0 a1 a2 s => fX0_soreAround_l4 k n a0 a1 a2 s) k v1 v2 v3 q1.2))
set_option maxRecDepth 100000 in
set_option maxHeartbeats 4000000 in
theorem wfX0_soreAround_l4 (X : Scr) (k : Nat) (hk : bk k) : ∀ (n : Nat) (v1 : Int32) (v2 : Int32) (v3 : Int32) (σ : Sto) (z : Int32 × Sto), fX0_soreAround_l4 k n v1 v2 v3 σ = some z → Rt X RX0 cX0_soreAround 4 (rmA 2 42) .ireturn 4 [(0, .ref k), (1, .int v1), (2, .int v2), (3, .int v3)] [] σ (some (.int z.1)) z.2 := by
  intro n
  induction n with
  | zero =>
    intro v1 v2 v3 σ z h
    rw [fX0_soreAround_l4] at h
    cases h
  | succ n ih =>
    intro v1 v2 v3 σ z h
    rw [fX0_soreAround_l4] at h
    refine Rt.iload_n 3 dX0_soreAround_4 rfl ?_
    refine Rt.bipush 24 dX0_soreAround_5 (by decide) ?_
    refine Rt.icmp_ge 34 dX0_soreAround_7 (by decide) (fun c1 => ?_) (fun c1 => ?_)
    · replace h := (if_pos c1).symm.trans h
      refine Rt.iload_n 2 dX0_soreAround_34 rfl ?_
      obtain rfl := Option.some.inj h
      exact Rt.ret (v := some (.int v2)) dX0_soreAround_35 rfl rfl rfl
    · replace h := (if_neg c1).symm.trans h
      refine Rt.iload_n 1 dX0_soreAround_10 rfl ?_
      refine Rt.iload_n 3 dX0_soreAround_11 rfl ?_
      obtain ⟨q1, e1, h⟩ := bnd h
      refine Rt.cSN (mfX3_farApart v1 v3 _ q1 e1) lkX0_50 rfl ⟨Nat.le_of_ble_eq_true rfl, Nat.le_of_ble_eq_true rfl⟩ (Nat.le_of_ble_eq_true rfl) rfl dX0_soreAround_12 ?_
      refine Rt.iconst 1 dX0_soreAround_15 (by decide) ?_
      refine Rt.icmp_ne 28 dX0_soreAround_16 (by decide) (fun c2 => ?_) (fun c2 => ?_)
      · replace h := (if_neg c2).symm.trans h
        exact wfX0_soreAround_b28 X k hk (fun a0 a1 a2 s => fX0_soreAround_l4 k n a0 a1 a2 s) ih v1 v2 v3 _ z h
      · replace h := (if_pos c2).symm.trans h
        refine Rt.iload_n 2 dX0_soreAround_19 rfl ?_
        refine Rt.aload_n 0 dX0_soreAround_20 rfl ?_
        refine gfX0_9 hk.1 dX0_soreAround_21 ?_
        refine Rt.iload_n 3 dX0_soreAround_24 rfl ?_
        obtain ⟨g3, h⟩ := gd h
        refine Rt.iald hk.2 g3 dX0_soreAround_25 ?_
        refine Rt.iadd dX0_soreAround_26 ?_
        refine Rt.istore_n [(2, _), (0, _), (1, _), (3, _)] dX0_soreAround_27 (by decide) rfl ?_
        refine Rt.pick [1, 2, 0, 3] rfl ?_
        exact wfX0_soreAround_b28 X k hk (fun a0 a1 a2 s => fX0_soreAround_l4 k n a0 a1 a2 s) ih v1 (v2 + (q1.2 (k + 1) (v3).toNatClampNeg)) v3 _ z h
def fX0_soreAround (k : Nat) (v1 : Int32) (σ : Sto) : Option (Int32 × Sto) := fX0_soreAround_l4 k 300 v1 (0 : Int32) (0 : Int32) σ
set_option maxRecDepth 100000 in
set_option maxHeartbeats 4000000 in
theorem wfX0_soreAround (X : Scr) (k : Nat) (hk : bk k) (v1 : Int32) (σ : Sto) (z : Int32 × Sto) (h : fX0_soreAround k v1 σ = some z) : Rt X RX0 cX0_soreAround 4 (rmA 2 42) .ireturn 0 [(0, .ref k), (1, .int v1)] [] σ (some (.int z.1)) z.2 := by
  unfold fX0_soreAround at h
  refine Rt.iconst 0 dX0_soreAround_0 (by decide) ?_
  refine Rt.istore_n [(2, _), (0, _), (1, _)] dX0_soreAround_1 (by decide) rfl ?_
  refine Rt.iconst 0 dX0_soreAround_2 (by decide) ?_
  refine Rt.istore_n [(3, _), (2, _), (0, _), (1, _)] dX0_soreAround_3 (by decide) rfl ?_
  refine Rt.pick [2, 3, 1, 0] rfl ?_
  exact wfX0_soreAround_l4 X k hk 300 v1 (0 : Int32) (0 : Int32) _ z h
set_option maxRecDepth 100000 in
set_option maxHeartbeats 4000000 in
theorem mfX0_soreAround (k : Nat) (hk : bk k) (v1 : Int32) (σ : Sto) (z : Int32 × Sto) (h : fX0_soreAround k v1 σ = some z) : AM yX0_soreAround cX0_soreAround 4 (some .int) 2 42 [.ref k, .int v1] σ (some (.int z.1)) z.2 := AM.int rfl (Nat.le_of_ble_eq_true rfl) (fun X => wfX0_soreAround X k hk v1 σ z h)
-- fX3_bears
def fX3_bears_b19 (σ : Sto) : Option (Int32 × Sto) := (fX3_refuse (-1 : Int32) σ).bind fun q2 => some (q2.1, q2.2)
set_option maxRecDepth 100000 in
set_option maxHeartbeats 4000000 in
theorem wfX3_bears_b19 (X : Scr) (σ : Sto) (z : Int32 × Sto) (h : fX3_bears_b19 σ = some z) : Rt X RX3 cX3_bears 4 (rmA 3 65) .ireturn 19 [(0, .ref 0)] [] σ (some (.int z.1)) z.2 := by
  unfold fX3_bears_b19 at h
  refine Rt.aload_n 0 dX3_bears_19 rfl ?_
  refine Rt.iconst (-1) dX3_bears_20 (by decide) ?_
  obtain ⟨q2, e2, h⟩ := bnd h
  refine Rt.cV (mfX3_refuse (-1 : Int32) _ q2 e2) lkX3_57 ly0 rfl rfl rfl ⟨Nat.le_of_ble_eq_true rfl, Nat.le_of_ble_eq_true rfl⟩ (Nat.le_of_ble_eq_true rfl) rfl dX3_bears_21 ?_
  obtain rfl := Option.some.inj h
  exact Rt.ret (v := some (.int q2.1)) dX3_bears_24 rfl rfl rfl
def fX3_bears_b73 (v1 : Int32) (v2 : Int32) (v3 : Int32) (σ : Sto) : Option (Int32 × Sto) := if 0 ≤ v3 then (some (v2, σ)) else (some (v1, σ))
set_option maxRecDepth 100000 in
set_option maxHeartbeats 4000000 in
theorem wfX3_bears_b73 (X : Scr) (v1 : Int32) (v2 : Int32) (v3 : Int32) (σ : Sto) (z : Int32 × Sto) (h : fX3_bears_b73 v1 v2 v3 σ = some z) : Rt X RX3 cX3_bears 4 (rmA 3 65) .ireturn 73 [(1, .int v1), (2, .int v2), (3, .int v3)] [] σ (some (.int z.1)) z.2 := by
  unfold fX3_bears_b73 at h
  refine Rt.iload_n 2 dX3_bears_73 rfl ?_
  refine Rt.if_ge 81 dX3_bears_74 (by decide) (fun c6 => ?_) (fun c6 => ?_)
  · replace h := (if_pos c6).symm.trans h
    refine Rt.iload_n 1 dX3_bears_81 rfl ?_
    obtain rfl := Option.some.inj h
    exact Rt.ret (v := some (.int v2)) dX3_bears_82 rfl rfl rfl
  · replace h := (if_neg c6).symm.trans h
    refine Rt.iload_n 0 dX3_bears_77 rfl ?_
    refine Rt.goto 82 dX3_bears_78 (by decide) ?_
    obtain rfl := Option.some.inj h
    exact Rt.ret (v := some (.int v1)) dX3_bears_82 rfl rfl rfl
def fX3_bears_b65 (v1 : Int32) (v2 : Int32) (v3 : Int32) (σ : Sto) : Option (Int32 × Sto) := if v3 = 0 then (fX3_bears_b73 v1 v2 (v1 - v2) σ) else (fX3_bears_b73 v1 v2 v3 σ)
set_option maxRecDepth 100000 in
set_option maxHeartbeats 4000000 in
theorem wfX3_bears_b65 (X : Scr) (v1 : Int32) (v2 : Int32) (v3 : Int32) (σ : Sto) (z : Int32 × Sto) (h : fX3_bears_b65 v1 v2 v3 σ = some z) : Rt X RX3 cX3_bears 4 (rmA 3 65) .ireturn 65 [(1, .int v1), (2, .int v2), (3, .int v3)] [] σ (some (.int z.1)) z.2 := by
  unfold fX3_bears_b65 at h
  refine Rt.iload_n 2 dX3_bears_65 rfl ?_
  refine Rt.if_ne 73 dX3_bears_66 (by decide) (fun c5 => ?_) (fun c5 => ?_)
  · replace h := (if_neg c5).symm.trans h
    exact wfX3_bears_b73 X v1 v2 v3 _ z h
  · replace h := (if_pos c5).symm.trans h
    refine Rt.iload_n 0 dX3_bears_69 rfl ?_
    refine Rt.iload_n 1 dX3_bears_70 rfl ?_
    refine Rt.isub dX3_bears_71 ?_
    refine Rt.istore_n [(3, _), (1, _), (2, _)] dX3_bears_72 (by decide) rfl ?_
    refine Rt.pick [1, 2, 0] rfl ?_
    exact wfX3_bears_b73 X v1 v2 (v1 - v2) _ z h
def fX3_bears (v1 : Int32) (v2 : Int32) (σ : Sto) : Option (Int32 × Sto) := (fX3_isNoCell v1 σ).bind fun q1 => if q1.1 = 0 then ((fX3_isNoCell v2 q1.2).bind fun q3 => if q3.1 = 0 then (if v1 = v2 then (fX3_bears_b19 q3.2) else ((fX0_soreAt 1 v1 q3.2).bind fun q4 => (fX0_soreAt 1 v2 q4.2).bind fun q5 => if (q4.1 - q5.1) = 0 then ((fX0_soreAround 1 v1 q5.2).bind fun q6 => (fX0_soreAround 1 v2 q6.2).bind fun q7 => fX3_bears_b65 v1 v2 (q6.1 - q7.1) q7.2) else (fX3_bears_b65 v1 v2 (q4.1 - q5.1) q5.2))) else (fX3_bears_b19 q3.2)) else (fX3_bears_b19 q1.2)
set_option maxRecDepth 100000 in
set_option maxHeartbeats 4000000 in
theorem wfX3_bears (X : Scr) (v1 : Int32) (v2 : Int32) (σ : Sto) (z : Int32 × Sto) (h : fX3_bears v1 v2 σ = some z) : Rt X RX3 cX3_bears 4 (rmA 3 65) .ireturn 0 [(0, .ref 0), (1, .int v1), (2, .int v2)] [] σ (some (.int z.1)) z.2 := by
  unfold fX3_bears at h
  refine Rt.iload_n 1 dX3_bears_0 rfl ?_
  obtain ⟨q1, e1, h⟩ := bnd h
  refine Rt.cS (mfX3_isNoCell v1 _ q1 e1) lkX3_85 rfl ⟨Nat.le_of_ble_eq_true rfl, Nat.le_of_ble_eq_true rfl⟩ (Nat.le_of_ble_eq_true rfl) rfl dX3_bears_1 ?_
  refine Rt.if_ne 19 dX3_bears_4 (by decide) (fun c1 => ?_) (fun c1 => ?_)
  · replace h := (if_neg c1).symm.trans h
    refine Rt.pick [0] rfl ?_
    exact wfX3_bears_b19 X _ z h
  · replace h := (if_pos c1).symm.trans h
    refine Rt.iload_n 2 dX3_bears_7 rfl ?_
    obtain ⟨q3, e3, h⟩ := bnd h
    refine Rt.cS (mfX3_isNoCell v2 _ q3 e3) lkX3_85 rfl ⟨Nat.le_of_ble_eq_true rfl, Nat.le_of_ble_eq_true rfl⟩ (Nat.le_of_ble_eq_true rfl) rfl dX3_bears_8 ?_
    refine Rt.if_ne 19 dX3_bears_11 (by decide) (fun c2 => ?_) (fun c2 => ?_)
    · replace h := (if_neg c2).symm.trans h
      refine Rt.pick [0] rfl ?_
      exact wfX3_bears_b19 X _ z h
    · replace h := (if_pos c2).symm.trans h
      refine Rt.iload_n 1 dX3_bears_14 rfl ?_
      refine Rt.iload_n 2 dX3_bears_15 rfl ?_
      refine Rt.icmp_ne 25 dX3_bears_16 (by decide) (fun c3 => ?_) (fun c3 => ?_)
      · replace h := (if_neg c3).symm.trans h
        refine Rt.aload_n 0 dX3_bears_25 rfl ?_
        refine gfX3_10 ly0 dX3_bears_26 ?_
        refine Rt.iload_n 1 dX3_bears_29 rfl ?_
        obtain ⟨q4, e4, h⟩ := bnd h
        refine Rt.cVN (mfX0_soreAt 1 bk1 v1 _ q4 e4) lkX3_89 bk1.1 rfl rfl rfl ⟨Nat.le_of_ble_eq_true rfl, Nat.le_of_ble_eq_true rfl⟩ (Nat.le_of_ble_eq_true rfl) rfl dX3_bears_30 ?_
        refine Rt.aload_n 0 dX3_bears_33 rfl ?_
        refine gfX3_10 ly0 dX3_bears_34 ?_
        refine Rt.iload_n 2 dX3_bears_37 rfl ?_
        obtain ⟨q5, e5, h⟩ := bnd h
        refine Rt.cVN (mfX0_soreAt 1 bk1 v2 _ q5 e5) lkX3_89 bk1.1 rfl rfl rfl ⟨Nat.le_of_ble_eq_true rfl, Nat.le_of_ble_eq_true rfl⟩ (Nat.le_of_ble_eq_true rfl) rfl dX3_bears_38 ?_
        refine Rt.isub dX3_bears_41 ?_
        refine Rt.istore_n [(3, _), (0, _), (1, _), (2, _)] dX3_bears_42 (by decide) rfl ?_
        refine Rt.iload_n 0 dX3_bears_43 rfl ?_
        refine Rt.if_ne 65 dX3_bears_44 (by decide) (fun c4 => ?_) (fun c4 => ?_)
        · replace h := (if_neg c4).symm.trans h
          refine Rt.pick [2, 3, 0] rfl ?_
          exact wfX3_bears_b65 X v1 v2 (q4.1 - q5.1) _ z h
        · replace h := (if_pos c4).symm.trans h
          refine Rt.aload_n 1 dX3_bears_47 rfl ?_
          refine gfX3_10 ly0 dX3_bears_48 ?_
          refine Rt.iload_n 2 dX3_bears_51 rfl ?_
          obtain ⟨q6, e6, h⟩ := bnd h
          refine Rt.cVN (mfX0_soreAround 1 bk1 v1 _ q6 e6) lkX3_173 bk1.1 rfl rfl rfl ⟨Nat.le_of_ble_eq_true rfl, Nat.le_of_ble_eq_true rfl⟩ (Nat.le_of_ble_eq_true rfl) rfl dX3_bears_52 ?_
          refine Rt.aload_n 1 dX3_bears_55 rfl ?_
          refine gfX3_10 ly0 dX3_bears_56 ?_
          refine Rt.iload_n 3 dX3_bears_59 rfl ?_
          obtain ⟨q7, e7, h⟩ := bnd h
          refine Rt.cVN (mfX0_soreAround 1 bk1 v2 _ q7 e7) lkX3_173 bk1.1 rfl rfl rfl ⟨Nat.le_of_ble_eq_true rfl, Nat.le_of_ble_eq_true rfl⟩ (Nat.le_of_ble_eq_true rfl) rfl dX3_bears_60 ?_
          refine Rt.isub dX3_bears_63 ?_
          refine Rt.istore_n [(3, _), (0, _), (1, _), (2, _)] dX3_bears_64 (by decide) rfl ?_
          refine Rt.pick [2, 3, 0] rfl ?_
          exact wfX3_bears_b65 X v1 v2 (q6.1 - q7.1) _ z h
      · replace h := (if_pos c3).symm.trans h
        refine Rt.pick [0] rfl ?_
        exact wfX3_bears_b19 X _ z h
set_option maxRecDepth 100000 in
set_option maxHeartbeats 4000000 in
theorem mfX3_bears (v1 : Int32) (v2 : Int32) (σ : Sto) (z : Int32 × Sto) (h : fX3_bears v1 v2 σ = some z) : AM yX3_bears cX3_bears 4 (some .int) 3 65 [.ref 0, .int v1, .int v2] σ (some (.int z.1)) z.2 := AM.int rfl (Nat.le_of_ble_eq_true rfl) (fun X => wfX3_bears X v1 v2 σ z h)
-- fX3_boxOf
def fX3_boxOf (v0 : Int32) (v1 : Int32) (v2 : Int32) (σ : Sto) : Option (Int32 × Sto) := some (((v1 * (((v2 / (6 : Int32)) * v0) / (4 : Int32))) + (((irm v2 (6 : Int32)) * v1) / (6 : Int32))), σ)
set_option maxRecDepth 100000 in
set_option maxHeartbeats 4000000 in
theorem wfX3_boxOf (X : Scr) (v0 : Int32) (v1 : Int32) (v2 : Int32) (σ : Sto) (z : Int32 × Sto) (h : fX3_boxOf v0 v1 v2 σ = some z) : Rt X RX3 cX3_boxOf 3 (rmA 0 0) .ireturn 0 [(0, .int v0), (1, .int v1), (2, .int v2)] [] σ (some (.int z.1)) z.2 := by
  unfold fX3_boxOf at h
  refine Rt.iload_n 1 dX3_boxOf_0 rfl ?_
  refine Rt.iload_n 2 dX3_boxOf_1 rfl ?_
  refine Rt.bipush 6 dX3_boxOf_2 (by decide) ?_
  refine Rt.idiv dX3_boxOf_4 (by decide) ?_
  refine Rt.iload_n 0 dX3_boxOf_5 rfl ?_
  refine Rt.imul dX3_boxOf_6 ?_
  refine Rt.iconst 4 dX3_boxOf_7 (by decide) ?_
  refine Rt.idiv dX3_boxOf_8 (by decide) ?_
  refine Rt.imul dX3_boxOf_9 ?_
  refine Rt.iload_n 2 dX3_boxOf_10 rfl ?_
  refine Rt.bipush 6 dX3_boxOf_11 (by decide) ?_
  refine Rt.rem dX3_boxOf_13 (by decide) ?_
  refine Rt.iload_n 1 dX3_boxOf_14 rfl ?_
  refine Rt.imul dX3_boxOf_15 ?_
  refine Rt.bipush 6 dX3_boxOf_16 (by decide) ?_
  refine Rt.idiv dX3_boxOf_18 (by decide) ?_
  refine Rt.iadd dX3_boxOf_19 ?_
  obtain rfl := Option.some.inj h
  exact Rt.ret (v := some (.int ((v1 * (((v2 / (6 : Int32)) * v0) / (4 : Int32))) + (((irm v2 (6 : Int32)) * v1) / (6 : Int32))))) dX3_boxOf_20 rfl rfl rfl
set_option maxRecDepth 100000 in
set_option maxHeartbeats 4000000 in
theorem mfX3_boxOf (v0 : Int32) (v1 : Int32) (v2 : Int32) (σ : Sto) (z : Int32 × Sto) (h : fX3_boxOf v0 v1 v2 σ = some z) : AM yX3_boxOf cX3_boxOf 3 (some .int) 0 0 [.int v0, .int v1, .int v2] σ (some (.int z.1)) z.2 := AM.int rfl (Nat.le_of_ble_eq_true rfl) (fun X => wfX3_boxOf X v0 v1 v2 σ z h)
-- fX3_grid
def fX3_grid_b10 (σ : Sto) : Option (Int32 × Sto) := (fX3_refuse (-4 : Int32) σ).bind fun q1 => some (q1.1, q1.2)
set_option maxRecDepth 100000 in
set_option maxHeartbeats 4000000 in
theorem wfX3_grid_b10 (X : Scr) (σ : Sto) (z : Int32 × Sto) (h : fX3_grid_b10 σ = some z) : Rt X RX3 cX3_grid 8 (rmA 1 22) .ireturn 10 [(0, .ref 0)] [] σ (some (.int z.1)) z.2 := by
  unfold fX3_grid_b10 at h
  refine Rt.aload_n 0 dX3_grid_10 rfl ?_
  refine Rt.bipush (-4) dX3_grid_11 (by decide) ?_
  obtain ⟨q1, e1, h⟩ := bnd h
  refine Rt.cV (mfX3_refuse (-4 : Int32) _ q1 e1) lkX3_57 ly0 rfl rfl rfl ⟨Nat.le_of_ble_eq_true rfl, Nat.le_of_ble_eq_true rfl⟩ (Nat.le_of_ble_eq_true rfl) rfl dX3_grid_13 ?_
  obtain rfl := Option.some.inj h
  exact Rt.ret (v := some (.int q1.1)) dX3_grid_16 rfl rfl rfl
def fX3_grid_b28 (σ : Sto) : Option (Int32 × Sto) := (fX3_refuse (-6 : Int32) σ).bind fun q2 => some (q2.1, q2.2)
set_option maxRecDepth 100000 in
set_option maxHeartbeats 4000000 in
theorem wfX3_grid_b28 (X : Scr) (σ : Sto) (z : Int32 × Sto) (h : fX3_grid_b28 σ = some z) : Rt X RX3 cX3_grid 8 (rmA 1 22) .ireturn 28 [(0, .ref 0)] [] σ (some (.int z.1)) z.2 := by
  unfold fX3_grid_b28 at h
  refine Rt.aload_n 0 dX3_grid_28 rfl ?_
  refine Rt.bipush (-6) dX3_grid_29 (by decide) ?_
  obtain ⟨q2, e2, h⟩ := bnd h
  refine Rt.cV (mfX3_refuse (-6 : Int32) _ q2 e2) lkX3_57 ly0 rfl rfl rfl ⟨Nat.le_of_ble_eq_true rfl, Nat.le_of_ble_eq_true rfl⟩ (Nat.le_of_ble_eq_true rfl) rfl dX3_grid_31 ?_
  obtain rfl := Option.some.inj h
  exact Rt.ret (v := some (.int q2.1)) dX3_grid_34 rfl rfl rfl
def fX3_grid_b108 (k86 : Int32 → Int32 → Int32 → Int32 → Int32 → Sto → Option (Int32 × Sto)) (v1 : Int32) (v2 : Int32) (v5 : Int32) (v6 : Int32) (v7 : Int32) (σ : Sto) : Option (Int32 × Sto) := k86 v1 v2 v5 v6 (v7 + (1 : Int32)) σ
set_option maxRecDepth 100000 in
set_option maxHeartbeats 4000000 in
theorem wfX3_grid_b108 (X : Scr) (k86 : Int32 → Int32 → Int32 → Int32 → Int32 → Sto → Option (Int32 × Sto)) (hk86 : ∀ (v1 : Int32) (v2 : Int32) (v5 : Int32) (v6 : Int32) (v7 : Int32) (σ : Sto) (z : Int32 × Sto), k86 v1 v2 v5 v6 v7 σ = some z → Rt X RX3 cX3_grid 8 (rmA 1 22) .ireturn 86 [(1, .int v1), (2, .int v2), (5, .int v5), (6, .int v6), (7, .int v7)] [] σ (some (.int z.1)) z.2) (v1 : Int32) (v2 : Int32) (v5 : Int32) (v6 : Int32) (v7 : Int32) (σ : Sto) (z : Int32 × Sto) (h : fX3_grid_b108 k86 v1 v2 v5 v6 v7 σ = some z) : Rt X RX3 cX3_grid 8 (rmA 1 22) .ireturn 108 [(1, .int v1), (2, .int v2), (5, .int v5), (6, .int v6), (7, .int v7)] [] σ (some (.int z.1)) z.2 := by
  unfold fX3_grid_b108 at h
  refine Rt.iinc [(7, _), (1, _), (2, _), (5, _), (6, _)] (v7 + (1 : Int32)) 4 dX3_grid_108 rfl rfl (by decide) rfl ?_
  refine Rt.goto 86 dX3_grid_111 (by decide) ?_
  refine Rt.pick [1, 2, 3, 4, 0] rfl ?_
  exact hk86 v1 v2 v5 v6 (v7 + (1 : Int32)) _ z h
def fX3_grid_l86 : Nat → Int32 → Int32 → Int32 → Int32 → Int32 → Sto → Option (Int32 × Sto)
  | 0, _, _, _, _, _, _ => none
  | n + 1, v1, v2, v5, v6, v7, σ => if (24 : Int32) ≤ v7 then (some (v6, σ)) else ((fX3_boxOf v1 v2 v7 σ).bind fun q6 => if q6.1 = v5 then (fX3_grid_b108 (fun a0 a1 a2 a3 a4 s => fX3_grid_l86 n a0 a1 a2 a3 a4 s) v1 v2 v5 (v6 + (1 : Int32)) v7 q6.2) else (fX3_grid_b108 (fun a0 a1 a2 a3 a4 s => fX3_grid_l86 n a0 a1 a2 a3 a4 s) v1 v2 v5 v6 v7 q6.2))
set_option maxRecDepth 100000 in
set_option maxHeartbeats 4000000 in
theorem wfX3_grid_l86 (X : Scr) : ∀ (n : Nat) (v1 : Int32) (v2 : Int32) (v5 : Int32) (v6 : Int32) (v7 : Int32) (σ : Sto) (z : Int32 × Sto), fX3_grid_l86 n v1 v2 v5 v6 v7 σ = some z → Rt X RX3 cX3_grid 8 (rmA 1 22) .ireturn 86 [(1, .int v1), (2, .int v2), (5, .int v5), (6, .int v6), (7, .int v7)] [] σ (some (.int z.1)) z.2 := by
  intro n
  induction n with
  | zero =>
    intro v1 v2 v5 v6 v7 σ z h
    rw [fX3_grid_l86] at h
    cases h
  | succ n ih =>
    intro v1 v2 v5 v6 v7 σ z h
    rw [fX3_grid_l86] at h
    refine Rt.iload 4 dX3_grid_86 rfl ?_
    refine Rt.bipush 24 dX3_grid_88 (by decide) ?_
    refine Rt.icmp_ge 114 dX3_grid_90 (by decide) (fun c8 => ?_) (fun c8 => ?_)
    · replace h := (if_pos c8).symm.trans h
      refine Rt.iload 3 dX3_grid_114 rfl ?_
      obtain rfl := Option.some.inj h
      exact Rt.ret (v := some (.int v6)) dX3_grid_116 rfl rfl rfl
    · replace h := (if_neg c8).symm.trans h
      refine Rt.iload_n 0 dX3_grid_93 rfl ?_
      refine Rt.iload_n 1 dX3_grid_94 rfl ?_
      refine Rt.iload 4 dX3_grid_95 rfl ?_
      obtain ⟨q6, e6, h⟩ := bnd h
      refine Rt.cS (mfX3_boxOf v1 v2 v7 _ q6 e6) lkX3_176 rfl ⟨Nat.le_of_ble_eq_true rfl, Nat.le_of_ble_eq_true rfl⟩ (Nat.le_of_ble_eq_true rfl) rfl dX3_grid_97 ?_
      refine Rt.iload 2 dX3_grid_100 rfl ?_
      refine Rt.icmp_ne 108 dX3_grid_102 (by decide) (fun c9 => ?_) (fun c9 => ?_)
      · replace h := (if_neg c9).symm.trans h
        exact wfX3_grid_b108 X (fun a0 a1 a2 a3 a4 s => fX3_grid_l86 n a0 a1 a2 a3 a4 s) ih v1 v2 v5 v6 v7 _ z h
      · replace h := (if_pos c9).symm.trans h
        refine Rt.iinc [(6, _), (1, _), (2, _), (5, _), (7, _)] (v6 + (1 : Int32)) 3 dX3_grid_105 rfl rfl (by decide) rfl ?_
        refine Rt.pick [1, 2, 3, 0, 4] rfl ?_
        exact wfX3_grid_b108 X (fun a0 a1 a2 a3 a4 s => fX3_grid_l86 n a0 a1 a2 a3 a4 s) ih v1 v2 v5 (v6 + (1 : Int32)) v7 _ z h
def fX3_grid (v1 : Int32) (v2 : Int32) (v3 : Int32) (v4 : Int32) (σ : Sto) : Option (Int32 × Sto) := if v1 < (1 : Int32) then (fX3_grid_b10 σ) else (if (1 : Int32) ≤ v2 then (if (4 : Int32) < v1 then (fX3_grid_b28 σ) else (if v2 ≤ (6 : Int32) then ((fX3_isNoCell v3 σ).bind fun q3 => if q3.1 = 0 then ((fX3_isNot v4 (2 : Int32) q3.2).bind fun q4 => if q4.1 = 0 then ((fX3_boxOf v1 v2 v3 q4.2).bind fun q5 => if v4 = 0 then (some (q5.1, q5.2)) else (fX3_grid_l86 300 v1 v2 q5.1 (0 : Int32) (0 : Int32) q5.2)) else ((fX3_refuse (-2 : Int32) q4.2).bind fun q7 => some (q7.1, q7.2))) else ((fX3_refuse (-1 : Int32) q3.2).bind fun q8 => some (q8.1, q8.2))) else (fX3_grid_b28 σ))) else (fX3_grid_b10 σ))
set_option maxRecDepth 100000 in
set_option maxHeartbeats 4000000 in
theorem wfX3_grid (X : Scr) (v1 : Int32) (v2 : Int32) (v3 : Int32) (v4 : Int32) (σ : Sto) (z : Int32 × Sto) (h : fX3_grid v1 v2 v3 v4 σ = some z) : Rt X RX3 cX3_grid 8 (rmA 1 22) .ireturn 0 [(0, .ref 0), (1, .int v1), (2, .int v2), (3, .int v3), (4, .int v4)] [] σ (some (.int z.1)) z.2 := by
  unfold fX3_grid at h
  refine Rt.iload_n 1 dX3_grid_0 rfl ?_
  refine Rt.iconst 1 dX3_grid_1 (by decide) ?_
  refine Rt.icmp_lt 10 dX3_grid_2 (by decide) (fun c1 => ?_) (fun c1 => ?_)
  · replace h := (if_pos c1).symm.trans h
    refine Rt.pick [0] rfl ?_
    exact wfX3_grid_b10 X _ z h
  · replace h := (if_neg c1).symm.trans h
    refine Rt.iload_n 2 dX3_grid_5 rfl ?_
    refine Rt.iconst 1 dX3_grid_6 (by decide) ?_
    refine Rt.icmp_ge 17 dX3_grid_7 (by decide) (fun c2 => ?_) (fun c2 => ?_)
    · replace h := (if_pos c2).symm.trans h
      refine Rt.iload_n 1 dX3_grid_17 rfl ?_
      refine Rt.iconst 4 dX3_grid_18 (by decide) ?_
      refine Rt.icmp_gt 28 dX3_grid_19 (by decide) (fun c3 => ?_) (fun c3 => ?_)
      · replace h := (if_pos c3).symm.trans h
        refine Rt.pick [0] rfl ?_
        exact wfX3_grid_b28 X _ z h
      · replace h := (if_neg c3).symm.trans h
        refine Rt.iload_n 2 dX3_grid_22 rfl ?_
        refine Rt.bipush 6 dX3_grid_23 (by decide) ?_
        refine Rt.icmp_le 35 dX3_grid_25 (by decide) (fun c4 => ?_) (fun c4 => ?_)
        · replace h := (if_pos c4).symm.trans h
          refine Rt.iload_n 3 dX3_grid_35 rfl ?_
          obtain ⟨q3, e3, h⟩ := bnd h
          refine Rt.cS (mfX3_isNoCell v3 _ q3 e3) lkX3_85 rfl ⟨Nat.le_of_ble_eq_true rfl, Nat.le_of_ble_eq_true rfl⟩ (Nat.le_of_ble_eq_true rfl) rfl dX3_grid_36 ?_
          refine Rt.if_eq 48 dX3_grid_39 (by decide) (fun c5 => ?_) (fun c5 => ?_)
          · replace h := (if_pos c5).symm.trans h
            refine Rt.iload 4 dX3_grid_48 rfl ?_
            refine Rt.iconst 2 dX3_grid_50 (by decide) ?_
            obtain ⟨q4, e4, h⟩ := bnd h
            refine Rt.cS (mfX3_isNot v4 (2 : Int32) _ q4 e4) lkX3_75 rfl ⟨Nat.le_of_ble_eq_true rfl, Nat.le_of_ble_eq_true rfl⟩ (Nat.le_of_ble_eq_true rfl) rfl dX3_grid_51 ?_
            refine Rt.if_eq 64 dX3_grid_54 (by decide) (fun c6 => ?_) (fun c6 => ?_)
            · replace h := (if_pos c6).symm.trans h
              refine Rt.iload_n 1 dX3_grid_64 rfl ?_
              refine Rt.iload_n 2 dX3_grid_65 rfl ?_
              refine Rt.iload_n 3 dX3_grid_66 rfl ?_
              obtain ⟨q5, e5, h⟩ := bnd h
              refine Rt.cS (mfX3_boxOf v1 v2 v3 _ q5 e5) lkX3_176 rfl ⟨Nat.le_of_ble_eq_true rfl, Nat.le_of_ble_eq_true rfl⟩ (Nat.le_of_ble_eq_true rfl) rfl dX3_grid_67 ?_
              refine Rt.istore [(5, _), (0, _), (1, _), (2, _), (3, _), (4, _)] dX3_grid_70 (by decide) rfl ?_
              refine Rt.iload 5 dX3_grid_72 rfl ?_
              refine Rt.if_ne 80 dX3_grid_74 (by decide) (fun c7 => ?_) (fun c7 => ?_)
              · replace h := (if_neg c7).symm.trans h
                refine Rt.iconst 0 dX3_grid_80 (by decide) ?_
                refine Rt.istore [(6, _), (5, _), (0, _), (1, _), (2, _), (3, _), (4, _)] dX3_grid_81 (by decide) rfl ?_
                refine Rt.iconst 0 dX3_grid_83 (by decide) ?_
                refine Rt.istore [(7, _), (6, _), (5, _), (0, _), (1, _), (2, _), (3, _), (4, _)] dX3_grid_84 (by decide) rfl ?_
                refine Rt.pick [4, 5, 2, 1, 0] rfl ?_
                exact wfX3_grid_l86 X 300 v1 v2 q5.1 (0 : Int32) (0 : Int32) _ z h
              · replace h := (if_pos c7).symm.trans h
                refine Rt.iload 0 dX3_grid_77 rfl ?_
                obtain rfl := Option.some.inj h
                exact Rt.ret (v := some (.int q5.1)) dX3_grid_79 rfl rfl rfl
            · replace h := (if_neg c6).symm.trans h
              refine Rt.aload_n 0 dX3_grid_57 rfl ?_
              refine Rt.bipush (-2) dX3_grid_58 (by decide) ?_
              obtain ⟨q7, e7, h⟩ := bnd h
              refine Rt.cV (mfX3_refuse (-2 : Int32) _ q7 e7) lkX3_57 ly0 rfl rfl rfl ⟨Nat.le_of_ble_eq_true rfl, Nat.le_of_ble_eq_true rfl⟩ (Nat.le_of_ble_eq_true rfl) rfl dX3_grid_60 ?_
              obtain rfl := Option.some.inj h
              exact Rt.ret (v := some (.int q7.1)) dX3_grid_63 rfl rfl rfl
          · replace h := (if_neg c5).symm.trans h
            refine Rt.aload_n 0 dX3_grid_42 rfl ?_
            refine Rt.iconst (-1) dX3_grid_43 (by decide) ?_
            obtain ⟨q8, e8, h⟩ := bnd h
            refine Rt.cV (mfX3_refuse (-1 : Int32) _ q8 e8) lkX3_57 ly0 rfl rfl rfl ⟨Nat.le_of_ble_eq_true rfl, Nat.le_of_ble_eq_true rfl⟩ (Nat.le_of_ble_eq_true rfl) rfl dX3_grid_44 ?_
            obtain rfl := Option.some.inj h
            exact Rt.ret (v := some (.int q8.1)) dX3_grid_47 rfl rfl rfl
        · replace h := (if_neg c4).symm.trans h
          refine Rt.pick [0] rfl ?_
          exact wfX3_grid_b28 X _ z h
    · replace h := (if_neg c2).symm.trans h
      refine Rt.pick [0] rfl ?_
      exact wfX3_grid_b10 X _ z h
set_option maxRecDepth 100000 in
set_option maxHeartbeats 4000000 in
theorem mfX3_grid (v1 : Int32) (v2 : Int32) (v3 : Int32) (v4 : Int32) (σ : Sto) (z : Int32 × Sto) (h : fX3_grid v1 v2 v3 v4 σ = some z) : AM yX3_grid cX3_grid 8 (some .int) 1 22 [.ref 0, .int v1, .int v2, .int v3, .int v4] σ (some (.int z.1)) z.2 := AM.int rfl (Nat.le_of_ble_eq_true rfl) (fun X => wfX3_grid X v1 v2 v3 v4 σ z h)
-- fX3_taught
def fX3_taught_b75 (k25 : Int32 → Int32 → Int32 → Sto → Option (Int32 × Sto)) (k33 : Int32 → Int32 → Int32 → Int32 → Sto → Option (Int32 × Sto)) (v1 : Int32) (v2 : Int32) (v3 : Int32) (v4 : Int32) (σ : Sto) : Option (Int32 × Sto) := k33 v1 v2 v3 (v4 + (1 : Int32)) σ
set_option maxRecDepth 100000 in
set_option maxHeartbeats 4000000 in
theorem wfX3_taught_b75 (X : Scr) (k25 : Int32 → Int32 → Int32 → Sto → Option (Int32 × Sto)) (hk25 : ∀ (v1 : Int32) (v2 : Int32) (v3 : Int32) (σ : Sto) (z : Int32 × Sto), k25 v1 v2 v3 σ = some z → Rt X RX3 cX3_taught 6 (rmA 3 72) .ireturn 25 [(0, .ref 0), (1, .int v1), (2, .int v2), (3, .int v3)] [] σ (some (.int z.1)) z.2) (k33 : Int32 → Int32 → Int32 → Int32 → Sto → Option (Int32 × Sto)) (hk33 : ∀ (v1 : Int32) (v2 : Int32) (v3 : Int32) (v4 : Int32) (σ : Sto) (z : Int32 × Sto), k33 v1 v2 v3 v4 σ = some z → Rt X RX3 cX3_taught 6 (rmA 3 72) .ireturn 33 [(0, .ref 0), (1, .int v1), (2, .int v2), (3, .int v3), (4, .int v4)] [] σ (some (.int z.1)) z.2) (v1 : Int32) (v2 : Int32) (v3 : Int32) (v4 : Int32) (σ : Sto) (z : Int32 × Sto) (h : fX3_taught_b75 k25 k33 v1 v2 v3 v4 σ = some z) : Rt X RX3 cX3_taught 6 (rmA 3 72) .ireturn 75 [(0, .ref 0), (1, .int v1), (2, .int v2), (3, .int v3), (4, .int v4)] [] σ (some (.int z.1)) z.2 := by
  unfold fX3_taught_b75 at h
  refine Rt.iinc [(4, _), (0, _), (1, _), (2, _), (3, _)] (v4 + (1 : Int32)) 4 dX3_taught_75 rfl rfl (by decide) rfl ?_
  refine Rt.goto 33 dX3_taught_78 (by decide) ?_
  refine Rt.pick [1, 2, 3, 4, 0] rfl ?_
  exact hk33 v1 v2 v3 (v4 + (1 : Int32)) _ z h
def fX3_taught_l33 (k25 : Int32 → Int32 → Int32 → Sto → Option (Int32 × Sto)) : Nat → Int32 → Int32 → Int32 → Int32 → Sto → Option (Int32 × Sto)
  | 0, _, _, _, _, _ => none
  | n + 1, v1, v2, v3, v4, σ => if (5 : Int32) < v4 then (k25 v1 v2 (v3 + (1 : Int32)) σ) else ((fX1_trueAt (σ 1 2) v3 v4 σ).bind fun q1 => if q1.1 ≤ v2 then (fX3_taught_b75 k25 (fun a0 a1 a2 a3 s => fX3_taught_l33 k25 n a0 a1 a2 a3 s) v1 v2 v3 v4 q1.2) else (fX3_taught_b75 k25 (fun a0 a1 a2 a3 s => fX3_taught_l33 k25 n a0 a1 a2 a3 s) (((10 : Int32) * v3) + v4) q1.1 v3 v4 q1.2))
set_option maxRecDepth 100000 in
set_option maxHeartbeats 4000000 in
theorem wfX3_taught_l33 (X : Scr) (k25 : Int32 → Int32 → Int32 → Sto → Option (Int32 × Sto)) (hk25 : ∀ (v1 : Int32) (v2 : Int32) (v3 : Int32) (σ : Sto) (z : Int32 × Sto), k25 v1 v2 v3 σ = some z → Rt X RX3 cX3_taught 6 (rmA 3 72) .ireturn 25 [(0, .ref 0), (1, .int v1), (2, .int v2), (3, .int v3)] [] σ (some (.int z.1)) z.2) : ∀ (n : Nat) (v1 : Int32) (v2 : Int32) (v3 : Int32) (v4 : Int32) (σ : Sto) (z : Int32 × Sto), fX3_taught_l33 k25 n v1 v2 v3 v4 σ = some z → Rt X RX3 cX3_taught 6 (rmA 3 72) .ireturn 33 [(0, .ref 0), (1, .int v1), (2, .int v2), (3, .int v3), (4, .int v4)] [] σ (some (.int z.1)) z.2 := by
  intro n
  induction n with
  | zero =>
    intro v1 v2 v3 v4 σ z h
    rw [fX3_taught_l33] at h
    cases h
  | succ n ih =>
    intro v1 v2 v3 v4 σ z h
    rw [fX3_taught_l33] at h
    refine Rt.iload 4 dX3_taught_33 rfl ?_
    refine Rt.iconst 5 dX3_taught_35 (by decide) ?_
    refine Rt.icmp_gt 81 dX3_taught_36 (by decide) (fun c3 => ?_) (fun c3 => ?_)
    · replace h := (if_pos c3).symm.trans h
      refine Rt.iinc [(3, _), (0, _), (1, _), (2, _), (4, _)] (v3 + (1 : Int32)) 3 dX3_taught_81 rfl rfl (by decide) rfl ?_
      refine Rt.goto 25 dX3_taught_84 (by decide) ?_
      refine Rt.pick [1, 2, 3, 0] rfl ?_
      exact hk25 v1 v2 (v3 + (1 : Int32)) _ z h
    · replace h := (if_neg c3).symm.trans h
      refine Rt.aload_n 0 dX3_taught_39 rfl ?_
      refine gfX3_35 ly0 dX3_taught_40 ?_
      refine Rt.aload_n 0 dX3_taught_43 rfl ?_
      refine gfX3_10 ly0 dX3_taught_44 ?_
      refine gfX3_82 bk1.1 dX3_taught_47 ?_
      refine Rt.iload_n 3 dX3_taught_50 rfl ?_
      refine Rt.iload 4 dX3_taught_51 rfl ?_
      obtain ⟨q1, e1, h⟩ := bnd h
      refine Rt.cVN (mfX1_trueAt (σ 1 2) v3 v4 _ q1 e1) lkX3_179 ly11 rfl rfl rfl ⟨Nat.le_of_ble_eq_true rfl, Nat.le_of_ble_eq_true rfl⟩ (Nat.le_of_ble_eq_true rfl) rfl dX3_taught_53 ?_
      refine Rt.istore [(5, _), (0, _), (1, _), (2, _), (3, _), (4, _)] dX3_taught_56 (by decide) rfl ?_
      refine Rt.iload 0 dX3_taught_58 rfl ?_
      refine Rt.iload_n 3 dX3_taught_60 rfl ?_
      refine Rt.icmp_le 75 dX3_taught_61 (by decide) (fun c4 => ?_) (fun c4 => ?_)
      · replace h := (if_pos c4).symm.trans h
        refine Rt.pick [1, 2, 3, 4, 5] rfl ?_
        exact wfX3_taught_b75 X k25 hk25 (fun a0 a1 a2 a3 s => fX3_taught_l33 k25 n a0 a1 a2 a3 s) ih v1 v2 v3 v4 _ z h
      · replace h := (if_neg c4).symm.trans h
        refine Rt.iload 0 dX3_taught_64 rfl ?_
        refine Rt.istore_n [(2, _), (5, _), (0, _), (1, _), (3, _), (4, _)] dX3_taught_66 (by decide) rfl ?_
        refine Rt.bipush 10 dX3_taught_67 (by decide) ?_
        refine Rt.iload_n 4 dX3_taught_69 rfl ?_
        refine Rt.imul dX3_taught_70 ?_
        refine Rt.iload 5 dX3_taught_71 rfl ?_
        refine Rt.iadd dX3_taught_73 ?_
        refine Rt.istore_n [(1, _), (2, _), (5, _), (0, _), (3, _), (4, _)] dX3_taught_74 (by decide) rfl ?_
        refine Rt.pick [3, 0, 1, 4, 5] rfl ?_
        exact wfX3_taught_b75 X k25 hk25 (fun a0 a1 a2 a3 s => fX3_taught_l33 k25 n a0 a1 a2 a3 s) ih (((10 : Int32) * v3) + v4) q1.1 v3 v4 _ z h
def fX3_taught_l25 : Nat → Int32 → Int32 → Int32 → Sto → Option (Int32 × Sto)
  | 0, _, _, _, _ => none
  | n + 1, v1, v2, v3, σ => if (1 : Int32) < v3 then (some (v1, σ)) else (fX3_taught_l33 (fun a0 a1 a2 s => fX3_taught_l25 n a0 a1 a2 s) 300 v1 v2 v3 (2 : Int32) σ)
set_option maxRecDepth 100000 in
set_option maxHeartbeats 4000000 in
theorem wfX3_taught_l25 (X : Scr) : ∀ (n : Nat) (v1 : Int32) (v2 : Int32) (v3 : Int32) (σ : Sto) (z : Int32 × Sto), fX3_taught_l25 n v1 v2 v3 σ = some z → Rt X RX3 cX3_taught 6 (rmA 3 72) .ireturn 25 [(0, .ref 0), (1, .int v1), (2, .int v2), (3, .int v3)] [] σ (some (.int z.1)) z.2 := by
  intro n
  induction n with
  | zero =>
    intro v1 v2 v3 σ z h
    rw [fX3_taught_l25] at h
    cases h
  | succ n ih =>
    intro v1 v2 v3 σ z h
    rw [fX3_taught_l25] at h
    refine Rt.iload_n 3 dX3_taught_25 rfl ?_
    refine Rt.iconst 1 dX3_taught_26 (by decide) ?_
    refine Rt.icmp_gt 87 dX3_taught_27 (by decide) (fun c2 => ?_) (fun c2 => ?_)
    · replace h := (if_pos c2).symm.trans h
      refine Rt.iload_n 1 dX3_taught_87 rfl ?_
      obtain rfl := Option.some.inj h
      exact Rt.ret (v := some (.int v1)) dX3_taught_88 rfl rfl rfl
    · replace h := (if_neg c2).symm.trans h
      refine Rt.iconst 2 dX3_taught_30 (by decide) ?_
      refine Rt.istore [(4, _), (0, _), (1, _), (2, _), (3, _)] dX3_taught_31 (by decide) rfl ?_
      refine Rt.pick [1, 2, 3, 4, 0] rfl ?_
      exact wfX3_taught_l33 X (fun a0 a1 a2 s => fX3_taught_l25 n a0 a1 a2 s) ih 300 v1 v2 v3 (2 : Int32) _ z h
def fX3_taught (σ : Sto) : Option (Int32 × Sto) := if (σ 1 2) = (24 : Int32) then ((fX3_refuse (-3 : Int32) σ).bind fun q2 => some (q2.1, q2.2)) else (fX3_taught_l25 300 (0 : Int32) (-1 : Int32) (0 : Int32) σ)
set_option maxRecDepth 100000 in
set_option maxHeartbeats 4000000 in
theorem wfX3_taught (X : Scr) (σ : Sto) (z : Int32 × Sto) (h : fX3_taught σ = some z) : Rt X RX3 cX3_taught 6 (rmA 3 72) .ireturn 0 [(0, .ref 0)] [] σ (some (.int z.1)) z.2 := by
  unfold fX3_taught at h
  refine Rt.aload_n 0 dX3_taught_0 rfl ?_
  refine gfX3_10 ly0 dX3_taught_1 ?_
  refine gfX3_82 bk1.1 dX3_taught_4 ?_
  refine Rt.bipush 24 dX3_taught_7 (by decide) ?_
  refine Rt.icmp_ne 19 dX3_taught_9 (by decide) (fun c1 => ?_) (fun c1 => ?_)
  · replace h := (if_neg c1).symm.trans h
    refine Rt.iconst 0 dX3_taught_19 (by decide) ?_
    refine Rt.istore_n [(1, _), (0, _)] dX3_taught_20 (by decide) rfl ?_
    refine Rt.iconst (-1) dX3_taught_21 (by decide) ?_
    refine Rt.istore_n [(2, _), (1, _), (0, _)] dX3_taught_22 (by decide) rfl ?_
    refine Rt.iconst 0 dX3_taught_23 (by decide) ?_
    refine Rt.istore_n [(3, _), (2, _), (1, _), (0, _)] dX3_taught_24 (by decide) rfl ?_
    refine Rt.pick [3, 2, 1, 0] rfl ?_
    exact wfX3_taught_l25 X 300 (0 : Int32) (-1 : Int32) (0 : Int32) _ z h
  · replace h := (if_pos c1).symm.trans h
    refine Rt.aload_n 0 dX3_taught_12 rfl ?_
    refine Rt.bipush (-3) dX3_taught_13 (by decide) ?_
    obtain ⟨q2, e2, h⟩ := bnd h
    refine Rt.cV (mfX3_refuse (-3 : Int32) _ q2 e2) lkX3_57 ly0 rfl rfl rfl ⟨Nat.le_of_ble_eq_true rfl, Nat.le_of_ble_eq_true rfl⟩ (Nat.le_of_ble_eq_true rfl) rfl dX3_taught_15 ?_
    obtain rfl := Option.some.inj h
    exact Rt.ret (v := some (.int q2.1)) dX3_taught_18 rfl rfl rfl
set_option maxRecDepth 100000 in
set_option maxHeartbeats 4000000 in
theorem mfX3_taught (σ : Sto) (z : Int32 × Sto) (h : fX3_taught σ = some z) : AM yX3_taught cX3_taught 6 (some .int) 3 72 [.ref 0] σ (some (.int z.1)) z.2 := AM.int rfl (Nat.le_of_ble_eq_true rfl) (fun X => wfX3_taught X σ z h)
-- fX3_row
def fX3_row_b29 (σ : Sto) : Option (Int32 × Sto) := (fX3_refuse (-6 : Int32) σ).bind fun q1 => some (q1.1, q1.2)
set_option maxRecDepth 100000 in
set_option maxHeartbeats 4000000 in
theorem wfX3_row_b29 (X : Scr) (σ : Sto) (z : Int32 × Sto) (h : fX3_row_b29 σ = some z) : Rt X RX3 cX3_row 2 (rmA 1 22) .ireturn 29 [(0, .ref 0)] [] σ (some (.int z.1)) z.2 := by
  unfold fX3_row_b29 at h
  refine Rt.aload_n 0 dX3_row_29 rfl ?_
  refine Rt.bipush (-6) dX3_row_30 (by decide) ?_
  obtain ⟨q1, e1, h⟩ := bnd h
  refine Rt.cV (mfX3_refuse (-6 : Int32) _ q1 e1) lkX3_57 ly0 rfl rfl rfl ⟨Nat.le_of_ble_eq_true rfl, Nat.le_of_ble_eq_true rfl⟩ (Nat.le_of_ble_eq_true rfl) rfl dX3_row_32 ?_
  obtain rfl := Option.some.inj h
  exact Rt.ret (v := some (.int q1.1)) dX3_row_35 rfl rfl rfl
def fX3_row (v1 : Int32) (σ : Sto) : Option (Int32 × Sto) := if 0 ≤ v1 then (if (24 : Int32) < v1 then (fX3_row_b29 σ) else ((fX3_isNot (σ 0 9) (20 : Int32) σ).bind fun q2 => if q2.1 = 0 then (if inb (q2.2 0 9) 20 = true then (some (((upS (upS q2.2 14 ((q2.2 0 9)).toNatClampNeg v1) 0 9 (((upS q2.2 14 ((q2.2 0 9)).toNatClampNeg v1) 0 9) + (1 : Int32))) 0 9), (upS (upS q2.2 14 ((q2.2 0 9)).toNatClampNeg v1) 0 9 (((upS q2.2 14 ((q2.2 0 9)).toNatClampNeg v1) 0 9) + (1 : Int32))))) else none) else (fX3_row_b29 q2.2))) else ((fX3_refuse (-4 : Int32) σ).bind fun q3 => some (q3.1, q3.2))
set_option maxRecDepth 100000 in
set_option maxHeartbeats 4000000 in
theorem wfX3_row (X : Scr) (v1 : Int32) (σ : Sto) (z : Int32 × Sto) (h : fX3_row v1 σ = some z) : Rt X RX3 cX3_row 2 (rmA 1 22) .ireturn 0 [(0, .ref 0), (1, .int v1)] [] σ (some (.int z.1)) z.2 := by
  unfold fX3_row at h
  refine Rt.iload_n 1 dX3_row_0 rfl ?_
  refine Rt.if_ge 11 dX3_row_1 (by decide) (fun c1 => ?_) (fun c1 => ?_)
  · replace h := (if_pos c1).symm.trans h
    refine Rt.iload_n 1 dX3_row_11 rfl ?_
    refine Rt.bipush 24 dX3_row_12 (by decide) ?_
    refine Rt.icmp_gt 29 dX3_row_14 (by decide) (fun c2 => ?_) (fun c2 => ?_)
    · replace h := (if_pos c2).symm.trans h
      refine Rt.pick [0] rfl ?_
      exact wfX3_row_b29 X _ z h
    · replace h := (if_neg c2).symm.trans h
      refine Rt.aload_n 0 dX3_row_17 rfl ?_
      refine gfX3_49 ly0 dX3_row_18 ?_
      refine Rt.bipush 20 dX3_row_21 (by decide) ?_
      obtain ⟨q2, e2, h⟩ := bnd h
      refine Rt.cS (mfX3_isNot (σ 0 9) (20 : Int32) _ q2 e2) lkX3_75 rfl ⟨Nat.le_of_ble_eq_true rfl, Nat.le_of_ble_eq_true rfl⟩ (Nat.le_of_ble_eq_true rfl) rfl dX3_row_23 ?_
      refine Rt.if_eq 36 dX3_row_26 (by decide) (fun c3 => ?_) (fun c3 => ?_)
      · replace h := (if_pos c3).symm.trans h
        refine Rt.aload_n 0 dX3_row_36 rfl ?_
        refine gfX3_39 ly0 dX3_row_37 ?_
        refine Rt.aload_n 0 dX3_row_40 rfl ?_
        refine gfX3_49 ly0 dX3_row_41 ?_
        refine Rt.iload_n 1 dX3_row_44 rfl ?_
        obtain ⟨g4, h⟩ := gd h
        refine Rt.iast ly14 g4 dX3_row_45 ?_
        refine Rt.aload_n 0 dX3_row_46 rfl ?_
        refine Rt.dup dX3_row_47 rfl ?_
        refine gfX3_49 ly0 dX3_row_48 ?_
        refine Rt.iconst 1 dX3_row_51 (by decide) ?_
        refine Rt.iadd dX3_row_52 ?_
        refine pfX3_49 ly0 dX3_row_53 ?_
        refine Rt.aload_n 0 dX3_row_56 rfl ?_
        refine gfX3_49 ly0 dX3_row_57 ?_
        obtain rfl := Option.some.inj h
        exact Rt.ret (v := some (.int ((upS (upS q2.2 14 ((q2.2 0 9)).toNatClampNeg v1) 0 9 (((upS q2.2 14 ((q2.2 0 9)).toNatClampNeg v1) 0 9) + (1 : Int32))) 0 9))) dX3_row_60 rfl rfl rfl
      · replace h := (if_neg c3).symm.trans h
        refine Rt.pick [0] rfl ?_
        exact wfX3_row_b29 X _ z h
  · replace h := (if_neg c1).symm.trans h
    refine Rt.aload_n 0 dX3_row_4 rfl ?_
    refine Rt.bipush (-4) dX3_row_5 (by decide) ?_
    obtain ⟨q3, e3, h⟩ := bnd h
    refine Rt.cV (mfX3_refuse (-4 : Int32) _ q3 e3) lkX3_57 ly0 rfl rfl rfl ⟨Nat.le_of_ble_eq_true rfl, Nat.le_of_ble_eq_true rfl⟩ (Nat.le_of_ble_eq_true rfl) rfl dX3_row_7 ?_
    obtain rfl := Option.some.inj h
    exact Rt.ret (v := some (.int q3.1)) dX3_row_10 rfl rfl rfl
set_option maxRecDepth 100000 in
set_option maxHeartbeats 4000000 in
theorem mfX3_row (v1 : Int32) (σ : Sto) (z : Int32 × Sto) (h : fX3_row v1 σ = some z) : AM yX3_row cX3_row 2 (some .int) 1 22 [.ref 0, .int v1] σ (some (.int z.1)) z.2 := AM.int rfl (Nat.le_of_ble_eq_true rfl) (fun X => wfX3_row X v1 σ z h)
-- fX3_firstUntrue
def fX3_firstUntrue_l21 : Nat → Int32 → Sto → Option (Int32 × Sto)
  | 0, _, _ => none
  | n + 1, v2, σ => if (σ 0 9) ≤ v2 then (some ((-9 : Int32), σ)) else (if (20 : Int32) ≤ v2 then (some ((-9 : Int32), σ)) else ((fX0_strokeOn 5 (σ 5 3) σ).bind fun q2 => if inb v2 20 = true then (if (q2.2 5 2) = (q2.2 14 (v2).toNatClampNeg) then (fX3_firstUntrue_l21 n (v2 + (1 : Int32)) q2.2) else (some (v2, q2.2))) else none))
set_option maxRecDepth 100000 in
set_option maxHeartbeats 4000000 in
theorem wfX3_firstUntrue_l21 (X : Scr) : ∀ (n : Nat) (v2 : Int32) (σ : Sto) (z : Int32 × Sto), fX3_firstUntrue_l21 n v2 σ = some z → Rt X RX3 cX3_firstUntrue 3 (rmA 3 81) .ireturn 21 [(0, .ref 0), (2, .int v2)] [] σ (some (.int z.1)) z.2 := by
  intro n
  induction n with
  | zero =>
    intro v2 σ z h
    rw [fX3_firstUntrue_l21] at h
    cases h
  | succ n ih =>
    intro v2 σ z h
    rw [fX3_firstUntrue_l21] at h
    refine Rt.iload_n 1 dX3_firstUntrue_21 rfl ?_
    refine Rt.aload_n 0 dX3_firstUntrue_22 rfl ?_
    refine gfX3_49 ly0 dX3_firstUntrue_23 ?_
    refine Rt.icmp_ge 73 dX3_firstUntrue_26 (by decide) (fun c1 => ?_) (fun c1 => ?_)
    · replace h := (if_pos c1).symm.trans h
      refine Rt.bipush (-9) dX3_firstUntrue_73 (by decide) ?_
      obtain rfl := Option.some.inj h
      exact Rt.ret (v := some (.int (-9 : Int32))) dX3_firstUntrue_75 rfl rfl rfl
    · replace h := (if_neg c1).symm.trans h
      refine Rt.iload_n 1 dX3_firstUntrue_29 rfl ?_
      refine Rt.bipush 20 dX3_firstUntrue_30 (by decide) ?_
      refine Rt.icmp_ge 73 dX3_firstUntrue_32 (by decide) (fun c2 => ?_) (fun c2 => ?_)
      · replace h := (if_pos c2).symm.trans h
        refine Rt.bipush (-9) dX3_firstUntrue_73 (by decide) ?_
        obtain rfl := Option.some.inj h
        exact Rt.ret (v := some (.int (-9 : Int32))) dX3_firstUntrue_75 rfl rfl rfl
      · replace h := (if_neg c2).symm.trans h
        refine Rt.aload_n 0 dX3_firstUntrue_35 rfl ?_
        refine gfX3_19 ly0 dX3_firstUntrue_36 ?_
        refine Rt.aload_n 0 dX3_firstUntrue_39 rfl ?_
        refine gfX3_19 ly0 dX3_firstUntrue_40 ?_
        refine gfX3_187 bk5.1 dX3_firstUntrue_43 ?_
        obtain ⟨q2, e2, h⟩ := bnd h
        refine Rt.cVN0 (mfX0_strokeOn 5 bk5 (σ 5 3) _ q2 e2) lkX3_109 bk5.1 rfl rfl rfl ⟨Nat.le_of_ble_eq_true rfl, Nat.le_of_ble_eq_true rfl⟩ (Nat.le_of_ble_eq_true rfl) rfl dX3_firstUntrue_46 ?_
        refine Rt.aload_n 0 dX3_firstUntrue_49 rfl ?_
        refine gfX3_19 ly0 dX3_firstUntrue_50 ?_
        refine gfX3_82 bk5.1 dX3_firstUntrue_53 ?_
        refine Rt.aload_n 0 dX3_firstUntrue_56 rfl ?_
        refine gfX3_39 ly0 dX3_firstUntrue_57 ?_
        refine Rt.iload_n 1 dX3_firstUntrue_60 rfl ?_
        obtain ⟨g3, h⟩ := gd h
        refine Rt.iald ly14 g3 dX3_firstUntrue_61 ?_
        refine Rt.icmp_eq 67 dX3_firstUntrue_62 (by decide) (fun c4 => ?_) (fun c4 => ?_)
        · replace h := (if_pos c4).symm.trans h
          refine Rt.iinc [(2, _), (0, _)] (v2 + (1 : Int32)) 1 dX3_firstUntrue_67 rfl rfl (by decide) rfl ?_
          refine Rt.goto 21 dX3_firstUntrue_70 (by decide) ?_
          refine Rt.pick [1, 0] rfl ?_
          exact ih (v2 + (1 : Int32)) _ z h
        · replace h := (if_neg c4).symm.trans h
          refine Rt.iload_n 1 dX3_firstUntrue_65 rfl ?_
          obtain rfl := Option.some.inj h
          exact Rt.ret (v := some (.int v2)) dX3_firstUntrue_66 rfl rfl rfl
def fX3_firstUntrue (v1 : Int32) (σ : Sto) : Option (Int32 × Sto) := (fX0_take 5 1 σ).bind fun q1 => fX3_firstUntrue_l21 300 (0 : Int32) (upS q1.2 5 1 v1)
set_option maxRecDepth 100000 in
set_option maxHeartbeats 4000000 in
theorem wfX3_firstUntrue (X : Scr) (v1 : Int32) (σ : Sto) (z : Int32 × Sto) (h : fX3_firstUntrue v1 σ = some z) : Rt X RX3 cX3_firstUntrue 3 (rmA 3 81) .ireturn 0 [(0, .ref 0), (1, .int v1)] [] σ (some (.int z.1)) z.2 := by
  unfold fX3_firstUntrue at h
  refine Rt.aload_n 0 dX3_firstUntrue_0 rfl ?_
  refine gfX3_19 ly0 dX3_firstUntrue_1 ?_
  refine Rt.aload_n 0 dX3_firstUntrue_4 rfl ?_
  refine gfX3_10 ly0 dX3_firstUntrue_5 ?_
  obtain ⟨q1, e1, h⟩ := bnd h
  refine Rt.cVN0 (mfX0_take 5 bk5 1 bk1 _ q1 e1) lkX3_67 bk5.1 rfl rfl rfl ⟨Nat.le_of_ble_eq_true rfl, Nat.le_of_ble_eq_true rfl⟩ (Nat.le_of_ble_eq_true rfl) rfl dX3_firstUntrue_8 ?_
  refine Rt.aload_n 0 dX3_firstUntrue_11 rfl ?_
  refine gfX3_19 ly0 dX3_firstUntrue_12 ?_
  refine Rt.iload_n 1 dX3_firstUntrue_15 rfl ?_
  refine pfX3_79 bk5.1 dX3_firstUntrue_16 ?_
  refine Rt.iconst 0 dX3_firstUntrue_19 (by decide) ?_
  refine Rt.istore_n [(2, _), (0, _), (1, _)] dX3_firstUntrue_20 (by decide) rfl ?_
  refine Rt.pick [1, 0] rfl ?_
  exact wfX3_firstUntrue_l21 X 300 (0 : Int32) _ z h
set_option maxRecDepth 100000 in
set_option maxHeartbeats 4000000 in
theorem mfX3_firstUntrue (v1 : Int32) (σ : Sto) (z : Int32 × Sto) (h : fX3_firstUntrue v1 σ = some z) : AM yX3_firstUntrue cX3_firstUntrue 3 (some .int) 3 81 [.ref 0, .int v1] σ (some (.int z.1)) z.2 := AM.int rfl (Nat.le_of_ble_eq_true rfl) (fun X => wfX3_firstUntrue X v1 σ z h)
-- fX3_kinds
def fX3_kinds_b26 (k4 : Int32 → Int32 → Sto → Option (Int32 × Sto)) (v1 : Int32) (v2 : Int32) (σ : Sto) : Option (Int32 × Sto) := k4 v1 (v2 + (1 : Int32)) σ
set_option maxRecDepth 100000 in
set_option maxHeartbeats 4000000 in
theorem wfX3_kinds_b26 (X : Scr) (k4 : Int32 → Int32 → Sto → Option (Int32 × Sto)) (hk4 : ∀ (v1 : Int32) (v2 : Int32) (σ : Sto) (z : Int32 × Sto), k4 v1 v2 σ = some z → Rt X RX3 cX3_kinds 3 (rmA 4 103) .ireturn 4 [(0, .ref 0), (1, .int v1), (2, .int v2)] [] σ (some (.int z.1)) z.2) (v1 : Int32) (v2 : Int32) (σ : Sto) (z : Int32 × Sto) (h : fX3_kinds_b26 k4 v1 v2 σ = some z) : Rt X RX3 cX3_kinds 3 (rmA 4 103) .ireturn 26 [(0, .ref 0), (1, .int v1), (2, .int v2)] [] σ (some (.int z.1)) z.2 := by
  unfold fX3_kinds_b26 at h
  refine Rt.iinc [(2, _), (0, _), (1, _)] (v2 + (1 : Int32)) 2 dX3_kinds_26 rfl rfl (by decide) rfl ?_
  refine Rt.goto 4 dX3_kinds_29 (by decide) ?_
  refine Rt.pick [1, 2, 0] rfl ?_
  exact hk4 v1 (v2 + (1 : Int32)) _ z h
def fX3_kinds_l4 : Nat → Int32 → Int32 → Sto → Option (Int32 × Sto)
  | 0, _, _, _ => none
  | n + 1, v1, v2, σ => if (6 : Int32) ≤ v2 then (some (v1, σ)) else ((fX3_firstUntrue v2 σ).bind fun q1 => if q1.1 = (-9 : Int32) then (fX3_kinds_b26 (fun a0 a1 s => fX3_kinds_l4 n a0 a1 s) (v1 ||| (ishl5 (1 : Int32) v2)) v2 q1.2) else (fX3_kinds_b26 (fun a0 a1 s => fX3_kinds_l4 n a0 a1 s) v1 v2 q1.2))
set_option maxRecDepth 100000 in
set_option maxHeartbeats 4000000 in
theorem wfX3_kinds_l4 (X : Scr) : ∀ (n : Nat) (v1 : Int32) (v2 : Int32) (σ : Sto) (z : Int32 × Sto), fX3_kinds_l4 n v1 v2 σ = some z → Rt X RX3 cX3_kinds 3 (rmA 4 103) .ireturn 4 [(0, .ref 0), (1, .int v1), (2, .int v2)] [] σ (some (.int z.1)) z.2 := by
  intro n
  induction n with
  | zero =>
    intro v1 v2 σ z h
    rw [fX3_kinds_l4] at h
    cases h
  | succ n ih =>
    intro v1 v2 σ z h
    rw [fX3_kinds_l4] at h
    refine Rt.iload_n 2 dX3_kinds_4 rfl ?_
    refine Rt.bipush 6 dX3_kinds_5 (by decide) ?_
    refine Rt.icmp_ge 32 dX3_kinds_7 (by decide) (fun c1 => ?_) (fun c1 => ?_)
    · replace h := (if_pos c1).symm.trans h
      refine Rt.iload_n 1 dX3_kinds_32 rfl ?_
      obtain rfl := Option.some.inj h
      exact Rt.ret (v := some (.int v1)) dX3_kinds_33 rfl rfl rfl
    · replace h := (if_neg c1).symm.trans h
      refine Rt.aload_n 0 dX3_kinds_10 rfl ?_
      refine Rt.iload_n 2 dX3_kinds_11 rfl ?_
      obtain ⟨q1, e1, h⟩ := bnd h
      refine Rt.cV (mfX3_firstUntrue v2 _ q1 e1) lkX3_182 ly0 rfl rfl rfl ⟨Nat.le_of_ble_eq_true rfl, Nat.le_of_ble_eq_true rfl⟩ (Nat.le_of_ble_eq_true rfl) rfl dX3_kinds_12 ?_
      refine Rt.bipush (-9) dX3_kinds_15 (by decide) ?_
      refine Rt.icmp_ne 26 dX3_kinds_17 (by decide) (fun c2 => ?_) (fun c2 => ?_)
      · replace h := (if_neg c2).symm.trans h
        exact wfX3_kinds_b26 X (fun a0 a1 s => fX3_kinds_l4 n a0 a1 s) ih v1 v2 _ z h
      · replace h := (if_pos c2).symm.trans h
        refine Rt.iload_n 1 dX3_kinds_20 rfl ?_
        refine Rt.iconst 1 dX3_kinds_21 (by decide) ?_
        refine Rt.iload_n 2 dX3_kinds_22 rfl ?_
        refine Rt.shl dX3_kinds_23 ?_
        refine Rt.ior dX3_kinds_24 ?_
        refine Rt.istore_n [(1, _), (0, _), (2, _)] dX3_kinds_25 (by decide) rfl ?_
        refine Rt.pick [1, 0, 2] rfl ?_
        exact wfX3_kinds_b26 X (fun a0 a1 s => fX3_kinds_l4 n a0 a1 s) ih (v1 ||| (ishl5 (1 : Int32) v2)) v2 _ z h
def fX3_kinds (σ : Sto) : Option (Int32 × Sto) := fX3_kinds_l4 300 (0 : Int32) (0 : Int32) σ
set_option maxRecDepth 100000 in
set_option maxHeartbeats 4000000 in
theorem wfX3_kinds (X : Scr) (σ : Sto) (z : Int32 × Sto) (h : fX3_kinds σ = some z) : Rt X RX3 cX3_kinds 3 (rmA 4 103) .ireturn 0 [(0, .ref 0)] [] σ (some (.int z.1)) z.2 := by
  unfold fX3_kinds at h
  refine Rt.iconst 0 dX3_kinds_0 (by decide) ?_
  refine Rt.istore_n [(1, _), (0, _)] dX3_kinds_1 (by decide) rfl ?_
  refine Rt.iconst 0 dX3_kinds_2 (by decide) ?_
  refine Rt.istore_n [(2, _), (1, _), (0, _)] dX3_kinds_3 (by decide) rfl ?_
  refine Rt.pick [2, 1, 0] rfl ?_
  exact wfX3_kinds_l4 X 300 (0 : Int32) (0 : Int32) _ z h
set_option maxRecDepth 100000 in
set_option maxHeartbeats 4000000 in
theorem mfX3_kinds (σ : Sto) (z : Int32 × Sto) (h : fX3_kinds σ = some z) : AM yX3_kinds cX3_kinds 3 (some .int) 4 103 [.ref 0] σ (some (.int z.1)) z.2 := AM.int rfl (Nat.le_of_ble_eq_true rfl) (fun X => wfX3_kinds X σ z h)
-- fX3_judge
def fX3_judge (σ : Sto) : Option (Int32 × Sto) := (fX3_firstUntrue (σ 1 1) σ).bind fun q1 => some (q1.1, (upS q1.2 0 9 (0 : Int32)))
set_option maxRecDepth 100000 in
set_option maxHeartbeats 4000000 in
theorem wfX3_judge (X : Scr) (σ : Sto) (z : Int32 × Sto) (h : fX3_judge σ = some z) : Rt X RX3 cX3_judge 2 (rmA 4 103) .ireturn 0 [(0, .ref 0)] [] σ (some (.int z.1)) z.2 := by
  unfold fX3_judge at h
  refine Rt.aload_n 0 dX3_judge_0 rfl ?_
  refine Rt.aload_n 0 dX3_judge_1 rfl ?_
  refine gfX3_10 ly0 dX3_judge_2 ?_
  refine gfX3_79 bk1.1 dX3_judge_5 ?_
  obtain ⟨q1, e1, h⟩ := bnd h
  refine Rt.cV (mfX3_firstUntrue (σ 1 1) _ q1 e1) lkX3_182 ly0 rfl rfl rfl ⟨Nat.le_of_ble_eq_true rfl, Nat.le_of_ble_eq_true rfl⟩ (Nat.le_of_ble_eq_true rfl) rfl dX3_judge_8 ?_
  refine Rt.istore_n [(1, _), (0, _)] dX3_judge_11 (by decide) rfl ?_
  refine Rt.aload_n 1 dX3_judge_12 rfl ?_
  refine Rt.iconst 0 dX3_judge_13 (by decide) ?_
  refine pfX3_49 ly0 dX3_judge_14 ?_
  refine Rt.iload_n 0 dX3_judge_17 rfl ?_
  obtain rfl := Option.some.inj h
  exact Rt.ret (v := some (.int q1.1)) dX3_judge_18 rfl rfl rfl
set_option maxRecDepth 100000 in
set_option maxHeartbeats 4000000 in
theorem mfX3_judge (σ : Sto) (z : Int32 × Sto) (h : fX3_judge σ = some z) : AM yX3_judge cX3_judge 2 (some .int) 4 103 [.ref 0] σ (some (.int z.1)) z.2 := AM.int rfl (Nat.le_of_ble_eq_true rfl) (fun X => wfX3_judge X σ z h)
-- fX3_evenings
def fX3_evenings_b104 (k50 : Int32 → Int32 → Int32 → Int32 → Int32 → Sto → Option (Int32 × Sto)) (v1 : Int32) (v2 : Int32) (v4 : Int32) (v5 : Int32) (v6 : Int32) (σ : Sto) : Option (Int32 × Sto) := (fX0_followBy 5 v1 σ).bind fun q3 => k50 v1 v2 v4 (v5 + (mnI (40 : Int32) q3.1)) (v6 + (1 : Int32)) q3.2
set_option maxRecDepth 100000 in
set_option maxHeartbeats 4000000 in
theorem wfX3_evenings_b104 (X : Scr) (k50 : Int32 → Int32 → Int32 → Int32 → Int32 → Sto → Option (Int32 × Sto)) (hk50 : ∀ (v1 : Int32) (v2 : Int32) (v4 : Int32) (v5 : Int32) (v6 : Int32) (σ : Sto) (z : Int32 × Sto), k50 v1 v2 v4 v5 v6 σ = some z → Rt X RX3 cX3_evenings 7 (rmA 4 91) .ireturn 50 [(0, .ref 0), (1, .int v1), (2, .int v2), (4, .int v4), (5, .int v5), (6, .int v6)] [] σ (some (.int z.1)) z.2) (v1 : Int32) (v2 : Int32) (v4 : Int32) (v5 : Int32) (v6 : Int32) (σ : Sto) (z : Int32 × Sto) (h : fX3_evenings_b104 k50 v1 v2 v4 v5 v6 σ = some z) : Rt X RX3 cX3_evenings 7 (rmA 4 91) .ireturn 104 [(0, .ref 0), (1, .int v1), (2, .int v2), (4, .int v4), (5, .int v5), (6, .int v6)] [] σ (some (.int z.1)) z.2 := by
  unfold fX3_evenings_b104 at h
  refine Rt.iload 4 dX3_evenings_104 rfl ?_
  refine Rt.bipush 40 dX3_evenings_106 (by decide) ?_
  refine Rt.aload_n 0 dX3_evenings_108 rfl ?_
  refine gfX3_19 ly0 dX3_evenings_109 ?_
  refine Rt.iload_n 1 dX3_evenings_112 rfl ?_
  obtain ⟨q3, e3, h⟩ := bnd h
  refine Rt.cVN (mfX0_followBy 5 bk5 v1 _ q3 e3) lkX3_134 bk5.1 rfl rfl rfl ⟨Nat.le_of_ble_eq_true rfl, Nat.le_of_ble_eq_true rfl⟩ (Nat.le_of_ble_eq_true rfl) rfl dX3_evenings_113 ?_
  refine Rt.mmin mlX3_141 smMmin iniMath cdMmin (Nat.le_of_ble_eq_true rfl) (Nat.le_of_ble_eq_true rfl) dX3_evenings_116 ?_
  refine Rt.iadd dX3_evenings_119 ?_
  refine Rt.istore [(5, _), (0, _), (1, _), (2, _), (4, _), (6, _)] dX3_evenings_120 (by decide) rfl ?_
  refine Rt.iinc [(6, _), (5, _), (0, _), (1, _), (2, _), (4, _)] (v6 + (1 : Int32)) 5 dX3_evenings_122 rfl rfl (by decide) rfl ?_
  refine Rt.goto 50 dX3_evenings_125 (by decide) ?_
  refine Rt.pick [2, 3, 4, 5, 1, 0] rfl ?_
  exact hk50 v1 v2 v4 (v5 + (mnI (40 : Int32) q3.1)) (v6 + (1 : Int32)) _ z h
def fX3_evenings_l50 : Nat → Int32 → Int32 → Int32 → Int32 → Int32 → Sto → Option (Int32 × Sto)
  | 0, _, _, _, _, _, _ => none
  | n + 1, v1, v2, v4, v5, v6, σ => if v2 ≤ v6 then (some (v5, σ)) else ((fX0_take 5 1 σ).bind fun q2 => fX3_evenings_b104 (fun a0 a1 a2 a3 a4 s => fX3_evenings_l50 n a0 a1 a2 a3 a4 s) v1 v2 ((v4 * (1664525 : Int32)) + (1013904223 : Int32)) v5 v6 (upS (upS q2.2 5 3 (0 : Int32)) 5 2 (irm ((((v4 * (1664525 : Int32)) + (1013904223 : Int32)) &&& (2147483647 : Int32)) / (256 : Int32)) (24 : Int32))))
set_option maxRecDepth 100000 in
set_option maxHeartbeats 4000000 in
theorem wfX3_evenings_l50 (X : Scr) : ∀ (n : Nat) (v1 : Int32) (v2 : Int32) (v4 : Int32) (v5 : Int32) (v6 : Int32) (σ : Sto) (z : Int32 × Sto), fX3_evenings_l50 n v1 v2 v4 v5 v6 σ = some z → Rt X RX3 cX3_evenings 7 (rmA 4 91) .ireturn 50 [(0, .ref 0), (1, .int v1), (2, .int v2), (4, .int v4), (5, .int v5), (6, .int v6)] [] σ (some (.int z.1)) z.2 := by
  intro n
  induction n with
  | zero =>
    intro v1 v2 v4 v5 v6 σ z h
    rw [fX3_evenings_l50] at h
    cases h
  | succ n ih =>
    intro v1 v2 v4 v5 v6 σ z h
    rw [fX3_evenings_l50] at h
    refine Rt.iload 5 dX3_evenings_50 rfl ?_
    refine Rt.iload_n 2 dX3_evenings_52 rfl ?_
    refine Rt.icmp_ge 128 dX3_evenings_53 (by decide) (fun c4 => ?_) (fun c4 => ?_)
    · replace h := (if_pos c4).symm.trans h
      refine Rt.iload 4 dX3_evenings_128 rfl ?_
      obtain rfl := Option.some.inj h
      exact Rt.ret (v := some (.int v5)) dX3_evenings_130 rfl rfl rfl
    · replace h := (if_neg c4).symm.trans h
      refine Rt.iload 3 dX3_evenings_56 rfl ?_
      refine Rt.ldc 1664525 cnX3_185 dX3_evenings_58 ?_
      refine Rt.imul dX3_evenings_60 ?_
      refine Rt.ldc 1013904223 cnX3_186 dX3_evenings_61 ?_
      refine Rt.iadd dX3_evenings_63 ?_
      refine Rt.istore [(4, _), (0, _), (1, _), (2, _), (5, _), (6, _)] dX3_evenings_64 (by decide) rfl ?_
      refine Rt.aload_n 1 dX3_evenings_66 rfl ?_
      refine gfX3_19 ly0 dX3_evenings_67 ?_
      refine Rt.aload_n 1 dX3_evenings_70 rfl ?_
      refine gfX3_10 ly0 dX3_evenings_71 ?_
      obtain ⟨q2, e2, h⟩ := bnd h
      refine Rt.cVN0 (mfX0_take 5 bk5 1 bk1 _ q2 e2) lkX3_67 bk5.1 rfl rfl rfl ⟨Nat.le_of_ble_eq_true rfl, Nat.le_of_ble_eq_true rfl⟩ (Nat.le_of_ble_eq_true rfl) rfl dX3_evenings_74 ?_
      refine Rt.aload_n 1 dX3_evenings_77 rfl ?_
      refine gfX3_19 ly0 dX3_evenings_78 ?_
      refine Rt.iconst 0 dX3_evenings_81 (by decide) ?_
      refine pfX3_187 bk5.1 dX3_evenings_82 ?_
      refine Rt.aload_n 1 dX3_evenings_85 rfl ?_
      refine gfX3_19 ly0 dX3_evenings_86 ?_
      refine Rt.iload 0 dX3_evenings_89 rfl ?_
      refine Rt.ldc 2147483647 cnX3_190 dX3_evenings_91 ?_
      refine Rt.iand dX3_evenings_93 ?_
      refine Rt.sipush 256 dX3_evenings_94 (by decide) ?_
      refine Rt.idiv dX3_evenings_97 (by decide) ?_
      refine Rt.bipush 24 dX3_evenings_98 (by decide) ?_
      refine Rt.rem dX3_evenings_100 (by decide) ?_
      refine pfX3_82 bk5.1 dX3_evenings_101 ?_
      refine Rt.pick [1, 2, 3, 0, 4, 5] rfl ?_
      exact wfX3_evenings_b104 X (fun a0 a1 a2 a3 a4 s => fX3_evenings_l50 n a0 a1 a2 a3 a4 s) ih v1 v2 ((v4 * (1664525 : Int32)) + (1013904223 : Int32)) v5 v6 _ z h
def fX3_evenings (v1 : Int32) (v2 : Int32) (v3 : Int32) (σ : Sto) : Option (Int32 × Sto) := (fX3_isNot v1 (6 : Int32) σ).bind fun q1 => if q1.1 = 0 then (if (1 : Int32) ≤ v2 then (if v2 ≤ (20 : Int32) then (fX3_evenings_l50 300 v1 v2 v3 (0 : Int32) (0 : Int32) q1.2) else ((fX3_refuse (-6 : Int32) q1.2).bind fun q4 => some (q4.1, q4.2))) else ((fX3_refuse (-4 : Int32) q1.2).bind fun q5 => some (q5.1, q5.2))) else ((fX3_refuse (-2 : Int32) q1.2).bind fun q6 => some (q6.1, q6.2))
set_option maxRecDepth 100000 in
set_option maxHeartbeats 4000000 in
theorem wfX3_evenings (X : Scr) (v1 : Int32) (v2 : Int32) (v3 : Int32) (σ : Sto) (z : Int32 × Sto) (h : fX3_evenings v1 v2 v3 σ = some z) : Rt X RX3 cX3_evenings 7 (rmA 4 91) .ireturn 0 [(0, .ref 0), (1, .int v1), (2, .int v2), (3, .int v3)] [] σ (some (.int z.1)) z.2 := by
  unfold fX3_evenings at h
  refine Rt.iload_n 1 dX3_evenings_0 rfl ?_
  refine Rt.bipush 6 dX3_evenings_1 (by decide) ?_
  obtain ⟨q1, e1, h⟩ := bnd h
  refine Rt.cS (mfX3_isNot v1 (6 : Int32) _ q1 e1) lkX3_75 rfl ⟨Nat.le_of_ble_eq_true rfl, Nat.le_of_ble_eq_true rfl⟩ (Nat.le_of_ble_eq_true rfl) rfl dX3_evenings_3 ?_
  refine Rt.if_eq 16 dX3_evenings_6 (by decide) (fun c1 => ?_) (fun c1 => ?_)
  · replace h := (if_pos c1).symm.trans h
    refine Rt.iload_n 2 dX3_evenings_16 rfl ?_
    refine Rt.iconst 1 dX3_evenings_17 (by decide) ?_
    refine Rt.icmp_ge 28 dX3_evenings_18 (by decide) (fun c2 => ?_) (fun c2 => ?_)
    · replace h := (if_pos c2).symm.trans h
      refine Rt.iload_n 2 dX3_evenings_28 rfl ?_
      refine Rt.bipush 20 dX3_evenings_29 (by decide) ?_
      refine Rt.icmp_le 41 dX3_evenings_31 (by decide) (fun c3 => ?_) (fun c3 => ?_)
      · replace h := (if_pos c3).symm.trans h
        refine Rt.iload_n 3 dX3_evenings_41 rfl ?_
        refine Rt.istore [(4, _), (0, _), (1, _), (2, _), (3, _)] dX3_evenings_42 (by decide) rfl ?_
        refine Rt.iconst 0 dX3_evenings_44 (by decide) ?_
        refine Rt.istore [(5, _), (4, _), (0, _), (1, _), (2, _), (3, _)] dX3_evenings_45 (by decide) rfl ?_
        refine Rt.iconst 0 dX3_evenings_47 (by decide) ?_
        refine Rt.istore [(6, _), (5, _), (4, _), (0, _), (1, _), (2, _), (3, _)] dX3_evenings_48 (by decide) rfl ?_
        refine Rt.pick [3, 4, 5, 2, 1, 0] rfl ?_
        exact wfX3_evenings_l50 X 300 v1 v2 v3 (0 : Int32) (0 : Int32) _ z h
      · replace h := (if_neg c3).symm.trans h
        refine Rt.aload_n 0 dX3_evenings_34 rfl ?_
        refine Rt.bipush (-6) dX3_evenings_35 (by decide) ?_
        obtain ⟨q4, e4, h⟩ := bnd h
        refine Rt.cV (mfX3_refuse (-6 : Int32) _ q4 e4) lkX3_57 ly0 rfl rfl rfl ⟨Nat.le_of_ble_eq_true rfl, Nat.le_of_ble_eq_true rfl⟩ (Nat.le_of_ble_eq_true rfl) rfl dX3_evenings_37 ?_
        obtain rfl := Option.some.inj h
        exact Rt.ret (v := some (.int q4.1)) dX3_evenings_40 rfl rfl rfl
    · replace h := (if_neg c2).symm.trans h
      refine Rt.aload_n 0 dX3_evenings_21 rfl ?_
      refine Rt.bipush (-4) dX3_evenings_22 (by decide) ?_
      obtain ⟨q5, e5, h⟩ := bnd h
      refine Rt.cV (mfX3_refuse (-4 : Int32) _ q5 e5) lkX3_57 ly0 rfl rfl rfl ⟨Nat.le_of_ble_eq_true rfl, Nat.le_of_ble_eq_true rfl⟩ (Nat.le_of_ble_eq_true rfl) rfl dX3_evenings_24 ?_
      obtain rfl := Option.some.inj h
      exact Rt.ret (v := some (.int q5.1)) dX3_evenings_27 rfl rfl rfl
  · replace h := (if_neg c1).symm.trans h
    refine Rt.aload_n 0 dX3_evenings_9 rfl ?_
    refine Rt.bipush (-2) dX3_evenings_10 (by decide) ?_
    obtain ⟨q6, e6, h⟩ := bnd h
    refine Rt.cV (mfX3_refuse (-2 : Int32) _ q6 e6) lkX3_57 ly0 rfl rfl rfl ⟨Nat.le_of_ble_eq_true rfl, Nat.le_of_ble_eq_true rfl⟩ (Nat.le_of_ble_eq_true rfl) rfl dX3_evenings_12 ?_
    obtain rfl := Option.some.inj h
    exact Rt.ret (v := some (.int q6.1)) dX3_evenings_15 rfl rfl rfl
set_option maxRecDepth 100000 in
set_option maxHeartbeats 4000000 in
theorem mfX3_evenings (v1 : Int32) (v2 : Int32) (v3 : Int32) (σ : Sto) (z : Int32 × Sto) (h : fX3_evenings v1 v2 v3 σ = some z) : AM yX3_evenings cX3_evenings 7 (some .int) 4 91 [.ref 0, .int v1, .int v2, .int v3] σ (some (.int z.1)) z.2 := AM.int rfl (Nat.le_of_ble_eq_true rfl) (fun X => wfX3_evenings X v1 v2 v3 σ z h)
-- fX3_image
def fX3_image (σ : Sto) : Option (Int32 × Sto) := (fX0_take 3 1 σ).bind fun q1 => some (((upS q1.2 0 10 (1 : Int32)) 1 4), (upS q1.2 0 10 (1 : Int32)))
set_option maxRecDepth 100000 in
set_option maxHeartbeats 4000000 in
theorem wfX3_image (X : Scr) (σ : Sto) (z : Int32 × Sto) (h : fX3_image σ = some z) : Rt X RX3 cX3_image 1 (rmA 2 81) .ireturn 0 [(0, .ref 0)] [] σ (some (.int z.1)) z.2 := by
  unfold fX3_image at h
  refine Rt.aload_n 0 dX3_image_0 rfl ?_
  refine gfX3_16 ly0 dX3_image_1 ?_
  refine Rt.aload_n 0 dX3_image_4 rfl ?_
  refine gfX3_10 ly0 dX3_image_5 ?_
  obtain ⟨q1, e1, h⟩ := bnd h
  refine Rt.cVN0 (mfX0_take 3 bk3 1 bk1 _ q1 e1) lkX3_67 bk3.1 rfl rfl rfl ⟨Nat.le_of_ble_eq_true rfl, Nat.le_of_ble_eq_true rfl⟩ (Nat.le_of_ble_eq_true rfl) rfl dX3_image_8 ?_
  refine Rt.aload_n 0 dX3_image_11 rfl ?_
  refine Rt.iconst 1 dX3_image_12 (by decide) ?_
  refine pfX3_53 ly0 (by decide) dX3_image_13 ?_
  refine Rt.aload_n 0 dX3_image_16 rfl ?_
  refine gfX3_10 ly0 dX3_image_17 ?_
  refine gfX3_106 bk1.1 dX3_image_20 ?_
  obtain rfl := Option.some.inj h
  exact Rt.ret (v := some (.int ((upS q1.2 0 10 (1 : Int32)) 1 4))) dX3_image_23 rfl rfl rfl
set_option maxRecDepth 100000 in
set_option maxHeartbeats 4000000 in
theorem mfX3_image (σ : Sto) (z : Int32 × Sto) (h : fX3_image σ = some z) : AM yX3_image cX3_image 1 (some .int) 2 81 [.ref 0] σ (some (.int z.1)) z.2 := AM.int rfl (Nat.le_of_ble_eq_true rfl) (fun X => wfX3_image X σ z h)
-- fX3_on
def fX3_on (σ : Sto) : Option (Int32 × Sto) := if (σ 0 10) = 0 then ((fX3_refuse (-3 : Int32) σ).bind fun q2 => some (q2.1, q2.2)) else ((fX0_take 1 3 σ).bind fun q1 => some ((q1.2 1 4), q1.2))
set_option maxRecDepth 100000 in
set_option maxHeartbeats 4000000 in
theorem wfX3_on (X : Scr) (σ : Sto) (z : Int32 × Sto) (h : fX3_on σ = some z) : Rt X RX3 cX3_on 1 (rmA 2 81) .ireturn 0 [(0, .ref 0)] [] σ (some (.int z.1)) z.2 := by
  unfold fX3_on at h
  refine Rt.aload_n 0 dX3_on_0 rfl ?_
  refine gfX3_53 ly0 dX3_on_1 ?_
  refine Rt.if_ne 14 dX3_on_4 (by decide) (fun c1 => ?_) (fun c1 => ?_)
  · replace h := (if_neg c1).symm.trans h
    refine Rt.aload_n 0 dX3_on_14 rfl ?_
    refine gfX3_10 ly0 dX3_on_15 ?_
    refine Rt.aload_n 0 dX3_on_18 rfl ?_
    refine gfX3_16 ly0 dX3_on_19 ?_
    obtain ⟨q1, e1, h⟩ := bnd h
    refine Rt.cVN0 (mfX0_take 1 bk1 3 bk3 _ q1 e1) lkX3_67 bk1.1 rfl rfl rfl ⟨Nat.le_of_ble_eq_true rfl, Nat.le_of_ble_eq_true rfl⟩ (Nat.le_of_ble_eq_true rfl) rfl dX3_on_22 ?_
    refine Rt.aload_n 0 dX3_on_25 rfl ?_
    refine gfX3_10 ly0 dX3_on_26 ?_
    refine gfX3_106 bk1.1 dX3_on_29 ?_
    obtain rfl := Option.some.inj h
    exact Rt.ret (v := some (.int (q1.2 1 4))) dX3_on_32 rfl rfl rfl
  · replace h := (if_pos c1).symm.trans h
    refine Rt.aload_n 0 dX3_on_7 rfl ?_
    refine Rt.bipush (-3) dX3_on_8 (by decide) ?_
    obtain ⟨q2, e2, h⟩ := bnd h
    refine Rt.cV (mfX3_refuse (-3 : Int32) _ q2 e2) lkX3_57 ly0 rfl rfl rfl ⟨Nat.le_of_ble_eq_true rfl, Nat.le_of_ble_eq_true rfl⟩ (Nat.le_of_ble_eq_true rfl) rfl dX3_on_10 ?_
    obtain rfl := Option.some.inj h
    exact Rt.ret (v := some (.int q2.1)) dX3_on_13 rfl rfl rfl
set_option maxRecDepth 100000 in
set_option maxHeartbeats 4000000 in
theorem mfX3_on (σ : Sto) (z : Int32 × Sto) (h : fX3_on σ = some z) : AM yX3_on cX3_on 1 (some .int) 2 81 [.ref 0] σ (some (.int z.1)) z.2 := AM.int rfl (Nat.le_of_ble_eq_true rfl) (fun X => wfX3_on X σ z h)
-- fX0_soreOfAll
def fX0_soreOfAll_l4 (k : Nat) : Nat → Int32 → Int32 → Sto → Option (Int32 × Sto)
  | 0, _, _, _ => none
  | n + 1, v1, v2, σ => if (24 : Int32) ≤ v2 then (some (v1, σ)) else (if inb v2 24 = true then (fX0_soreOfAll_l4 k n (v1 + (σ (k + 1) (v2).toNatClampNeg)) (v2 + (1 : Int32)) σ) else none)
set_option maxRecDepth 100000 in
set_option maxHeartbeats 4000000 in
theorem wfX0_soreOfAll_l4 (X : Scr) (k : Nat) (hk : bk k) : ∀ (n : Nat) (v1 : Int32) (v2 : Int32) (σ : Sto) (z : Int32 × Sto), fX0_soreOfAll_l4 k n v1 v2 σ = some z → Rt X RX0 cX0_soreOfAll 3 (rmA 0 0) .ireturn 4 [(0, .ref k), (1, .int v1), (2, .int v2)] [] σ (some (.int z.1)) z.2 := by
  intro n
  induction n with
  | zero =>
    intro v1 v2 σ z h
    rw [fX0_soreOfAll_l4] at h
    cases h
  | succ n ih =>
    intro v1 v2 σ z h
    rw [fX0_soreOfAll_l4] at h
    refine Rt.iload_n 2 dX0_soreOfAll_4 rfl ?_
    refine Rt.bipush 24 dX0_soreOfAll_5 (by decide) ?_
    refine Rt.icmp_ge 25 dX0_soreOfAll_7 (by decide) (fun c1 => ?_) (fun c1 => ?_)
    · replace h := (if_pos c1).symm.trans h
      refine Rt.iload_n 1 dX0_soreOfAll_25 rfl ?_
      obtain rfl := Option.some.inj h
      exact Rt.ret (v := some (.int v1)) dX0_soreOfAll_26 rfl rfl rfl
    · replace h := (if_neg c1).symm.trans h
      refine Rt.iload_n 1 dX0_soreOfAll_10 rfl ?_
      refine Rt.aload_n 0 dX0_soreOfAll_11 rfl ?_
      refine gfX0_9 hk.1 dX0_soreOfAll_12 ?_
      refine Rt.iload_n 2 dX0_soreOfAll_15 rfl ?_
      obtain ⟨g2, h⟩ := gd h
      refine Rt.iald hk.2 g2 dX0_soreOfAll_16 ?_
      refine Rt.iadd dX0_soreOfAll_17 ?_
      refine Rt.istore_n [(1, _), (0, _), (2, _)] dX0_soreOfAll_18 (by decide) rfl ?_
      refine Rt.iinc [(2, _), (1, _), (0, _)] (v2 + (1 : Int32)) 2 dX0_soreOfAll_19 rfl rfl (by decide) rfl ?_
      refine Rt.goto 4 dX0_soreOfAll_22 (by decide) ?_
      refine Rt.pick [2, 1, 0] rfl ?_
      exact ih (v1 + (σ (k + 1) (v2).toNatClampNeg)) (v2 + (1 : Int32)) _ z h
def fX0_soreOfAll (k : Nat) (σ : Sto) : Option (Int32 × Sto) := fX0_soreOfAll_l4 k 300 (0 : Int32) (0 : Int32) σ
set_option maxRecDepth 100000 in
set_option maxHeartbeats 4000000 in
theorem wfX0_soreOfAll (X : Scr) (k : Nat) (hk : bk k) (σ : Sto) (z : Int32 × Sto) (h : fX0_soreOfAll k σ = some z) : Rt X RX0 cX0_soreOfAll 3 (rmA 0 0) .ireturn 0 [(0, .ref k)] [] σ (some (.int z.1)) z.2 := by
  unfold fX0_soreOfAll at h
  refine Rt.iconst 0 dX0_soreOfAll_0 (by decide) ?_
  refine Rt.istore_n [(1, _), (0, _)] dX0_soreOfAll_1 (by decide) rfl ?_
  refine Rt.iconst 0 dX0_soreOfAll_2 (by decide) ?_
  refine Rt.istore_n [(2, _), (1, _), (0, _)] dX0_soreOfAll_3 (by decide) rfl ?_
  refine Rt.pick [2, 1, 0] rfl ?_
  exact wfX0_soreOfAll_l4 X k hk 300 (0 : Int32) (0 : Int32) _ z h
set_option maxRecDepth 100000 in
set_option maxHeartbeats 4000000 in
theorem mfX0_soreOfAll (k : Nat) (hk : bk k) (σ : Sto) (z : Int32 × Sto) (h : fX0_soreOfAll k σ = some z) : AM yX0_soreOfAll cX0_soreOfAll 3 (some .int) 0 0 [.ref k] σ (some (.int z.1)) z.2 := AM.int rfl (Nat.le_of_ble_eq_true rfl) (fun X => wfX0_soreOfAll X k hk σ z h)
-- fX3_count
def fX3_count (v1 : Int32) (σ : Sto) : Option (Int32 × Sto) := if v1 = 0 then (some ((σ 1 4), σ)) else (if v1 = 1 then (some ((σ 1 3), σ)) else (if v1 = 2 then ((fX0_soreOfAll 1 σ).bind fun q1 => some (q1.1, q1.2)) else (if v1 = 3 then (some ((σ 1 5), σ)) else (if v1 = 4 then (some ((σ 1 6), σ)) else (if v1 = 5 then (some ((σ 1 7), σ)) else (if v1 = 6 then (some ((σ 1 8), σ)) else (if v1 = 7 then (some ((σ 11 2), σ)) else (if v1 = 8 then (some ((σ 0 9), σ)) else (if v1 = 9 then (some ((σ 9 1), σ)) else ((fX3_within v1 (11 : Int32) (16 : Int32) σ).bind fun q2 => if q2.1 = 0 then (some ((-9 : Int32), q2.2)) else (if inb (v1 - (10 : Int32)) 7 = true then (some ((q2.2 16 ((v1 - (10 : Int32))).toNatClampNeg), q2.2)) else none)))))))))))
set_option maxRecDepth 100000 in
set_option maxHeartbeats 4000000 in
theorem wfX3_count (X : Scr) (v1 : Int32) (σ : Sto) (z : Int32 × Sto) (h : fX3_count v1 σ = some z) : Rt X RX3 cX3_count 2 (rmA 1 22) .ireturn 0 [(0, .ref 0), (1, .int v1)] [] σ (some (.int z.1)) z.2 := by
  unfold fX3_count at h
  refine Rt.iload_n 1 dX3_count_0 rfl ?_
  by_cases sw1_0 : v1 = 0
  · replace h := (if_pos sw1_0).symm.trans h
    refine Rt.tsIn 56 dX3_count_1 (by rw [sw1_0] <;> decide) (by rw [sw1_0] <;> decide) (by rw [sw1_0] <;> rfl) (by decide) ?_
    refine Rt.aload_n 0 dX3_count_56 rfl ?_
    refine gfX3_10 ly0 dX3_count_57 ?_
    refine gfX3_106 bk1.1 dX3_count_60 ?_
    obtain rfl := Option.some.inj h
    exact Rt.ret (v := some (.int (σ 1 4))) dX3_count_63 rfl rfl rfl
  · replace h := (if_neg sw1_0).symm.trans h
    by_cases sw1_1 : v1 = 1
    · replace h := (if_pos sw1_1).symm.trans h
      refine Rt.tsIn 64 dX3_count_1 (by rw [sw1_1] <;> decide) (by rw [sw1_1] <;> decide) (by rw [sw1_1] <;> rfl) (by decide) ?_
      refine Rt.aload_n 0 dX3_count_64 rfl ?_
      refine gfX3_10 ly0 dX3_count_65 ?_
      refine gfX3_187 bk1.1 dX3_count_68 ?_
      obtain rfl := Option.some.inj h
      exact Rt.ret (v := some (.int (σ 1 3))) dX3_count_71 rfl rfl rfl
    · replace h := (if_neg sw1_1).symm.trans h
      by_cases sw1_2 : v1 = 2
      · replace h := (if_pos sw1_2).symm.trans h
        refine Rt.tsIn 72 dX3_count_1 (by rw [sw1_2] <;> decide) (by rw [sw1_2] <;> decide) (by rw [sw1_2] <;> rfl) (by decide) ?_
        refine Rt.aload_n 0 dX3_count_72 rfl ?_
        refine gfX3_10 ly0 dX3_count_73 ?_
        obtain ⟨q1, e1, h⟩ := bnd h
        refine Rt.cVN (mfX0_soreOfAll 1 bk1 _ q1 e1) lkX3_191 bk1.1 rfl rfl rfl ⟨Nat.le_of_ble_eq_true rfl, Nat.le_of_ble_eq_true rfl⟩ (Nat.le_of_ble_eq_true rfl) rfl dX3_count_76 ?_
        obtain rfl := Option.some.inj h
        exact Rt.ret (v := some (.int q1.1)) dX3_count_79 rfl rfl rfl
      · replace h := (if_neg sw1_2).symm.trans h
        by_cases sw1_3 : v1 = 3
        · replace h := (if_pos sw1_3).symm.trans h
          refine Rt.tsIn 80 dX3_count_1 (by rw [sw1_3] <;> decide) (by rw [sw1_3] <;> decide) (by rw [sw1_3] <;> rfl) (by decide) ?_
          refine Rt.aload_n 0 dX3_count_80 rfl ?_
          refine gfX3_10 ly0 dX3_count_81 ?_
          refine gfX3_120 bk1.1 dX3_count_84 ?_
          obtain rfl := Option.some.inj h
          exact Rt.ret (v := some (.int (σ 1 5))) dX3_count_87 rfl rfl rfl
        · replace h := (if_neg sw1_3).symm.trans h
          by_cases sw1_4 : v1 = 4
          · replace h := (if_pos sw1_4).symm.trans h
            refine Rt.tsIn 88 dX3_count_1 (by rw [sw1_4] <;> decide) (by rw [sw1_4] <;> decide) (by rw [sw1_4] <;> rfl) (by decide) ?_
            refine Rt.aload_n 0 dX3_count_88 rfl ?_
            refine gfX3_10 ly0 dX3_count_89 ?_
            refine gfX3_152 bk1.1 dX3_count_92 ?_
            obtain rfl := Option.some.inj h
            exact Rt.ret (v := some (.int (σ 1 6))) dX3_count_95 rfl rfl rfl
          · replace h := (if_neg sw1_4).symm.trans h
            by_cases sw1_5 : v1 = 5
            · replace h := (if_pos sw1_5).symm.trans h
              refine Rt.tsIn 96 dX3_count_1 (by rw [sw1_5] <;> decide) (by rw [sw1_5] <;> decide) (by rw [sw1_5] <;> rfl) (by decide) ?_
              refine Rt.aload_n 0 dX3_count_96 rfl ?_
              refine gfX3_10 ly0 dX3_count_97 ?_
              refine gfX3_123 bk1.1 dX3_count_100 ?_
              obtain rfl := Option.some.inj h
              exact Rt.ret (v := some (.int (σ 1 7))) dX3_count_103 rfl rfl rfl
            · replace h := (if_neg sw1_5).symm.trans h
              by_cases sw1_6 : v1 = 6
              · replace h := (if_pos sw1_6).symm.trans h
                refine Rt.tsIn 104 dX3_count_1 (by rw [sw1_6] <;> decide) (by rw [sw1_6] <;> decide) (by rw [sw1_6] <;> rfl) (by decide) ?_
                refine Rt.aload_n 0 dX3_count_104 rfl ?_
                refine gfX3_10 ly0 dX3_count_105 ?_
                refine gfX3_194 bk1.1 dX3_count_108 ?_
                obtain rfl := Option.some.inj h
                exact Rt.ret (v := some (.int (σ 1 8))) dX3_count_111 rfl rfl rfl
              · replace h := (if_neg sw1_6).symm.trans h
                by_cases sw1_7 : v1 = 7
                · replace h := (if_pos sw1_7).symm.trans h
                  refine Rt.tsIn 112 dX3_count_1 (by rw [sw1_7] <;> decide) (by rw [sw1_7] <;> decide) (by rw [sw1_7] <;> rfl) (by decide) ?_
                  refine Rt.aload_n 0 dX3_count_112 rfl ?_
                  refine gfX3_35 ly0 dX3_count_113 ?_
                  refine gfX3_155 ly11 dX3_count_116 ?_
                  obtain rfl := Option.some.inj h
                  exact Rt.ret (v := some (.int (σ 11 2))) dX3_count_119 rfl rfl rfl
                · replace h := (if_neg sw1_7).symm.trans h
                  by_cases sw1_8 : v1 = 8
                  · replace h := (if_pos sw1_8).symm.trans h
                    refine Rt.tsIn 120 dX3_count_1 (by rw [sw1_8] <;> decide) (by rw [sw1_8] <;> decide) (by rw [sw1_8] <;> rfl) (by decide) ?_
                    refine Rt.aload_n 0 dX3_count_120 rfl ?_
                    refine gfX3_49 ly0 dX3_count_121 ?_
                    obtain rfl := Option.some.inj h
                    exact Rt.ret (v := some (.int (σ 0 9))) dX3_count_124 rfl rfl rfl
                  · replace h := (if_neg sw1_8).symm.trans h
                    by_cases sw1_9 : v1 = 9
                    · replace h := (if_pos sw1_9).symm.trans h
                      refine Rt.tsIn 125 dX3_count_1 (by rw [sw1_9] <;> decide) (by rw [sw1_9] <;> decide) (by rw [sw1_9] <;> rfl) (by decide) ?_
                      refine Rt.aload_n 0 dX3_count_125 rfl ?_
                      refine gfX3_28 ly0 dX3_count_126 ?_
                      refine gfX3_61 ly9 dX3_count_129 ?_
                      obtain rfl := Option.some.inj h
                      exact Rt.ret (v := some (.int (σ 9 1))) dX3_count_132 rfl rfl rfl
                    · replace h := (if_neg sw1_9).symm.trans h
                      have hsw : (v1).toInt < 0 ∨ 9 < (v1).toInt := by
                        have w0 := nti 0 (k := 0) rfl sw1_0
                        have w1 := nti 1 (k := 1) rfl sw1_1
                        have w2 := nti 2 (k := 2) rfl sw1_2
                        have w3 := nti 3 (k := 3) rfl sw1_3
                        have w4 := nti 4 (k := 4) rfl sw1_4
                        have w5 := nti 5 (k := 5) rfl sw1_5
                        have w6 := nti 6 (k := 6) rfl sw1_6
                        have w7 := nti 7 (k := 7) rfl sw1_7
                        have w8 := nti 8 (k := 8) rfl sw1_8
                        have w9 := nti 9 (k := 9) rfl sw1_9
                        omega
                      refine Rt.tsOut 133 dX3_count_1 hsw (by decide) ?_
                      refine Rt.iload_n 1 dX3_count_133 rfl ?_
                      refine Rt.bipush 11 dX3_count_134 (by decide) ?_
                      refine Rt.bipush 16 dX3_count_136 (by decide) ?_
                      obtain ⟨q2, e2, h⟩ := bnd h
                      refine Rt.cS (mfX3_within v1 (11 : Int32) (16 : Int32) _ q2 e2) lkX3_197 rfl ⟨Nat.le_of_ble_eq_true rfl, Nat.le_of_ble_eq_true rfl⟩ (Nat.le_of_ble_eq_true rfl) rfl dX3_count_138 ?_
                      refine Rt.if_eq 156 dX3_count_141 (by decide) (fun c2 => ?_) (fun c2 => ?_)
                      · replace h := (if_pos c2).symm.trans h
                        refine Rt.bipush (-9) dX3_count_156 (by decide) ?_
                        obtain rfl := Option.some.inj h
                        exact Rt.ret (v := some (.int (-9 : Int32))) dX3_count_158 rfl rfl rfl
                      · replace h := (if_neg c2).symm.trans h
                        refine Rt.aload_n 0 dX3_count_144 rfl ?_
                        refine gfX3_46 ly0 dX3_count_145 ?_
                        refine Rt.iload_n 1 dX3_count_148 rfl ?_
                        refine Rt.bipush 10 dX3_count_149 (by decide) ?_
                        refine Rt.isub dX3_count_151 ?_
                        obtain ⟨g3, h⟩ := gd h
                        refine Rt.iald ly16 g3 dX3_count_152 ?_
                        refine Rt.goto 158 dX3_count_153 (by decide) ?_
                        obtain rfl := Option.some.inj h
                        exact Rt.ret (v := some (.int (q2.2 16 ((v1 - (10 : Int32))).toNatClampNeg))) dX3_count_158 rfl rfl rfl
set_option maxRecDepth 100000 in
set_option maxHeartbeats 4000000 in
theorem mfX3_count (v1 : Int32) (σ : Sto) (z : Int32 × Sto) (h : fX3_count v1 σ = some z) : AM yX3_count cX3_count 2 (some .int) 1 22 [.ref 0, .int v1] σ (some (.int z.1)) z.2 := AM.int rfl (Nat.le_of_ble_eq_true rfl) (fun X => wfX3_count X v1 σ z h)
-- fX4_bound
def fX4_bound (v0 : Int32) (v1 : Int32) (v2 : Int32) (σ : Sto) : Option (Int32 × Sto) := if v1 ≤ v0 then (if v0 ≤ v2 then (some ((0 : Int32), σ)) else (some ((-6 : Int32), σ))) else (some ((-4 : Int32), σ))
set_option maxRecDepth 100000 in
set_option maxHeartbeats 4000000 in
theorem wfX4_bound (X : Scr) (v0 : Int32) (v1 : Int32) (v2 : Int32) (σ : Sto) (z : Int32 × Sto) (h : fX4_bound v0 v1 v2 σ = some z) : Rt X RX4 cX4_bound 3 (rmA 0 0) .ireturn 0 [(0, .int v0), (1, .int v1), (2, .int v2)] [] σ (some (.int z.1)) z.2 := by
  unfold fX4_bound at h
  refine Rt.iload_n 0 dX4_bound_0 rfl ?_
  refine Rt.iload_n 1 dX4_bound_1 rfl ?_
  refine Rt.icmp_ge 10 dX4_bound_2 (by decide) (fun c1 => ?_) (fun c1 => ?_)
  · replace h := (if_pos c1).symm.trans h
    refine Rt.iload_n 0 dX4_bound_10 rfl ?_
    refine Rt.iload_n 2 dX4_bound_11 rfl ?_
    refine Rt.icmp_le 20 dX4_bound_12 (by decide) (fun c2 => ?_) (fun c2 => ?_)
    · replace h := (if_pos c2).symm.trans h
      refine Rt.iconst 0 dX4_bound_20 (by decide) ?_
      obtain rfl := Option.some.inj h
      exact Rt.ret (v := some (.int (0 : Int32))) dX4_bound_21 rfl rfl rfl
    · replace h := (if_neg c2).symm.trans h
      refine Rt.bipush (-6) dX4_bound_15 (by decide) ?_
      refine Rt.goto 21 dX4_bound_17 (by decide) ?_
      obtain rfl := Option.some.inj h
      exact Rt.ret (v := some (.int (-6 : Int32))) dX4_bound_21 rfl rfl rfl
  · replace h := (if_neg c1).symm.trans h
    refine Rt.bipush (-4) dX4_bound_5 (by decide) ?_
    refine Rt.goto 21 dX4_bound_7 (by decide) ?_
    obtain rfl := Option.some.inj h
    exact Rt.ret (v := some (.int (-4 : Int32))) dX4_bound_21 rfl rfl rfl
set_option maxRecDepth 100000 in
set_option maxHeartbeats 4000000 in
theorem mfX4_bound (v0 : Int32) (v1 : Int32) (v2 : Int32) (σ : Sto) (z : Int32 × Sto) (h : fX4_bound v0 v1 v2 σ = some z) : AM yX4_bound cX4_bound 3 (some .int) 0 0 [.int v0, .int v1, .int v2] σ (some (.int z.1)) z.2 := AM.int rfl (Nat.le_of_ble_eq_true rfl) (fun X => wfX4_bound X v0 v1 v2 σ z h)
-- fX4_no
def fX4_no (v1 : Int32) (σ : Sto) : Option (Int32 × Sto) := if inb (-v1) 7 = true then (if inb (-v1) 7 = true then (some (v1, (upS σ 18 ((-v1)).toNatClampNeg ((σ 18 ((-v1)).toNatClampNeg) + (1 : Int32))))) else none) else none
set_option maxRecDepth 100000 in
set_option maxHeartbeats 4000000 in
theorem wfX4_no (X : Scr) (v1 : Int32) (σ : Sto) (z : Int32 × Sto) (h : fX4_no v1 σ = some z) : Rt X RX4 cX4_no 2 (rmA 0 0) .ireturn 0 [(0, .ref 17), (1, .int v1)] [] σ (some (.int z.1)) z.2 := by
  unfold fX4_no at h
  refine Rt.aload_n 0 dX4_no_0 rfl ?_
  refine gfX4_7 ly17 dX4_no_1 ?_
  refine Rt.iload_n 1 dX4_no_4 rfl ?_
  refine Rt.ineg dX4_no_5 ?_
  refine Rt.dup2 dX4_no_6 rfl rfl ?_
  obtain ⟨g1, h⟩ := gd h
  refine Rt.iald ly18 g1 dX4_no_7 ?_
  refine Rt.iconst 1 dX4_no_8 (by decide) ?_
  refine Rt.iadd dX4_no_9 ?_
  obtain ⟨g2, h⟩ := gd h
  refine Rt.iast ly18 g2 dX4_no_10 ?_
  refine Rt.iload_n 1 dX4_no_11 rfl ?_
  obtain rfl := Option.some.inj h
  exact Rt.ret (v := some (.int v1)) dX4_no_12 rfl rfl rfl
set_option maxRecDepth 100000 in
set_option maxHeartbeats 4000000 in
theorem mfX4_no (v1 : Int32) (σ : Sto) (z : Int32 × Sto) (h : fX4_no v1 σ = some z) : AM yX4_no cX4_no 2 (some .int) 0 0 [.ref 17, .int v1] σ (some (.int z.1)) z.2 := AM.int rfl (Nat.le_of_ble_eq_true rfl) (fun X => wfX4_no X v1 σ z h)
-- fX4_letter
def fX4_letter_b25 (v1 : Int32) (v2 : Int32) (σ : Sto) : Option (Int32 × Sto) := if v2 = 0 then (if inb (σ 17 11) 80 = true then (some (((upS (upS σ 21 ((σ 17 11)).toNatClampNeg v1) 17 11 (((upS σ 21 ((σ 17 11)).toNatClampNeg v1) 17 11) + (1 : Int32))) 17 11), (upS (upS σ 21 ((σ 17 11)).toNatClampNeg v1) 17 11 (((upS σ 21 ((σ 17 11)).toNatClampNeg v1) 17 11) + (1 : Int32))))) else none) else ((fX4_no v2 σ).bind fun q2 => some (q2.1, q2.2))
set_option maxRecDepth 100000 in
set_option maxHeartbeats 4000000 in
theorem wfX4_letter_b25 (X : Scr) (v1 : Int32) (v2 : Int32) (σ : Sto) (z : Int32 × Sto) (h : fX4_letter_b25 v1 v2 σ = some z) : Rt X RX4 cX4_letter 3 (rmA 1 22) .ireturn 25 [(0, .ref 17), (1, .int v1), (2, .int v2)] [] σ (some (.int z.1)) z.2 := by
  unfold fX4_letter_b25 at h
  refine Rt.iload_n 2 dX4_letter_25 rfl ?_
  refine Rt.if_eq 35 dX4_letter_26 (by decide) (fun c2 => ?_) (fun c2 => ?_)
  · replace h := (if_pos c2).symm.trans h
    refine Rt.aload_n 0 dX4_letter_35 rfl ?_
    refine gfX4_19 ly17 dX4_letter_36 ?_
    refine Rt.aload_n 0 dX4_letter_39 rfl ?_
    refine gfX4_56 ly17 dX4_letter_40 ?_
    refine Rt.iload_n 1 dX4_letter_43 rfl ?_
    obtain ⟨g3, h⟩ := gd h
    refine Rt.iast ly21 g3 dX4_letter_44 ?_
    refine Rt.aload_n 0 dX4_letter_45 rfl ?_
    refine Rt.dup dX4_letter_46 rfl ?_
    refine gfX4_56 ly17 dX4_letter_47 ?_
    refine Rt.iconst 1 dX4_letter_50 (by decide) ?_
    refine Rt.iadd dX4_letter_51 ?_
    refine pfX4_56 ly17 dX4_letter_52 ?_
    refine Rt.aload_n 0 dX4_letter_55 rfl ?_
    refine gfX4_56 ly17 dX4_letter_56 ?_
    obtain rfl := Option.some.inj h
    exact Rt.ret (v := some (.int ((upS (upS σ 21 ((σ 17 11)).toNatClampNeg v1) 17 11 (((upS σ 21 ((σ 17 11)).toNatClampNeg v1) 17 11) + (1 : Int32))) 17 11))) dX4_letter_59 rfl rfl rfl
  · replace h := (if_neg c2).symm.trans h
    refine Rt.aload_n 0 dX4_letter_29 rfl ?_
    refine Rt.iload_n 2 dX4_letter_30 rfl ?_
    obtain ⟨q2, e2, h⟩ := bnd h
    refine Rt.cV (mfX4_no v2 _ q2 e2) lkX4_60 ly17 rfl rfl rfl ⟨Nat.le_of_ble_eq_true rfl, Nat.le_of_ble_eq_true rfl⟩ (Nat.le_of_ble_eq_true rfl) rfl dX4_letter_31 ?_
    obtain rfl := Option.some.inj h
    exact Rt.ret (v := some (.int q2.1)) dX4_letter_34 rfl rfl rfl
def fX4_letter (v1 : Int32) (σ : Sto) : Option (Int32 × Sto) := (fX4_bound v1 (0 : Int32) (255 : Int32) σ).bind fun q1 => if q1.1 = 0 then (if (q1.2 17 11) = (80 : Int32) then (fX4_letter_b25 v1 (-6 : Int32) q1.2) else (fX4_letter_b25 v1 q1.1 q1.2)) else (fX4_letter_b25 v1 q1.1 q1.2)
set_option maxRecDepth 100000 in
set_option maxHeartbeats 4000000 in
theorem wfX4_letter (X : Scr) (v1 : Int32) (σ : Sto) (z : Int32 × Sto) (h : fX4_letter v1 σ = some z) : Rt X RX4 cX4_letter 3 (rmA 1 22) .ireturn 0 [(0, .ref 17), (1, .int v1)] [] σ (some (.int z.1)) z.2 := by
  unfold fX4_letter at h
  refine Rt.iload_n 1 dX4_letter_0 rfl ?_
  refine Rt.iconst 0 dX4_letter_1 (by decide) ?_
  refine Rt.sipush 255 dX4_letter_2 (by decide) ?_
  obtain ⟨q1, e1, h⟩ := bnd h
  refine Rt.cS (mfX4_bound v1 (0 : Int32) (255 : Int32) _ q1 e1) lkX4_52 rfl ⟨Nat.le_of_ble_eq_true rfl, Nat.le_of_ble_eq_true rfl⟩ (Nat.le_of_ble_eq_true rfl) rfl dX4_letter_5 ?_
  refine Rt.istore_n [(2, _), (0, _), (1, _)] dX4_letter_8 (by decide) rfl ?_
  refine Rt.iload_n 0 dX4_letter_9 rfl ?_
  refine Rt.if_ne 25 dX4_letter_10 (by decide) (fun c1 => ?_) (fun c1 => ?_)
  · replace h := (if_neg c1).symm.trans h
    refine Rt.pick [1, 2, 0] rfl ?_
    exact wfX4_letter_b25 X v1 q1.1 _ z h
  · replace h := (if_pos c1).symm.trans h
    refine Rt.aload_n 1 dX4_letter_13 rfl ?_
    refine gfX4_56 ly17 dX4_letter_14 ?_
    refine Rt.bipush 80 dX4_letter_17 (by decide) ?_
    refine Rt.icmp_ne 25 dX4_letter_19 (by decide) (fun c4 => ?_) (fun c4 => ?_)
    · replace h := (if_neg c4).symm.trans h
      refine Rt.pick [1, 2, 0] rfl ?_
      exact wfX4_letter_b25 X v1 q1.1 _ z h
    · replace h := (if_pos c4).symm.trans h
      refine Rt.bipush (-6) dX4_letter_22 (by decide) ?_
      refine Rt.istore_n [(2, _), (0, _), (1, _)] dX4_letter_24 (by decide) rfl ?_
      refine Rt.pick [1, 2, 0] rfl ?_
      exact wfX4_letter_b25 X v1 (-6 : Int32) _ z h
set_option maxRecDepth 100000 in
set_option maxHeartbeats 4000000 in
theorem mfX4_letter (v1 : Int32) (σ : Sto) (z : Int32 × Sto) (h : fX4_letter v1 σ = some z) : AM yX4_letter cX4_letter 3 (some .int) 1 22 [.ref 17, .int v1] σ (some (.int z.1)) z.2 := AM.int rfl (Nat.le_of_ble_eq_true rfl) (fun X => wfX4_letter X v1 σ z h)
-- fX4_passes_19
def fX4_passes_19_b42 (k2 : Int32 → Sto → Option (Unit × Sto)) (v2 : Int32) (σ : Sto) : Option (Unit × Sto) := k2 (v2 + (1 : Int32)) (upS σ 17 17 ((σ 17 17) + (1 : Int32)))
set_option maxRecDepth 100000 in
set_option maxHeartbeats 4000000 in
theorem wfX4_passes_19_b42 (X : Scr) (k2 : Int32 → Sto → Option (Unit × Sto)) (hk2 : ∀ (v2 : Int32) (σ : Sto) (z : Unit × Sto), k2 v2 σ = some z → Rt X RX4 cX4_passes 3 (rmA 0 0) .return_ 2 [(0, .ref 17), (1, .ref 19), (2, .int v2)] [] σ none z.2) (v2 : Int32) (σ : Sto) (z : Unit × Sto) (h : fX4_passes_19_b42 k2 v2 σ = some z) : Rt X RX4 cX4_passes 3 (rmA 0 0) .return_ 42 [(0, .ref 17), (1, .ref 19), (2, .int v2)] [] σ none z.2 := by
  unfold fX4_passes_19_b42 at h
  refine Rt.aload_n 0 dX4_passes_42 rfl ?_
  refine Rt.dup dX4_passes_43 rfl ?_
  refine gfX4_132 ly17 dX4_passes_44 ?_
  refine Rt.iconst 1 dX4_passes_47 (by decide) ?_
  refine Rt.iadd dX4_passes_48 ?_
  refine pfX4_132 ly17 dX4_passes_49 ?_
  refine Rt.iinc [(2, _), (0, _), (1, _)] (v2 + (1 : Int32)) 2 dX4_passes_52 rfl rfl (by decide) rfl ?_
  refine Rt.goto 2 dX4_passes_55 (by decide) ?_
  refine Rt.pick [1, 2, 0] rfl ?_
  exact hk2 (v2 + (1 : Int32)) _ z h
def fX4_passes_19_l2 : Nat → Int32 → Sto → Option (Unit × Sto)
  | 0, _, _ => none
  | n + 1, v2, σ => if (24 : Int32) ≤ v2 then (some ((), σ)) else (if (σ 17 16) = 0 then (if inb (σ 17 17) 105 = true then (if inb v2 24 = true then (fX4_passes_19_b42 (fun a0 s => fX4_passes_19_l2 n a0 s) v2 (upS σ 19 (v2).toNatClampNeg (σ 25 ((σ 17 17)).toNatClampNeg))) else none) else none) else (if inb v2 24 = true then (if inb (σ 17 17) 105 = true then (fX4_passes_19_b42 (fun a0 s => fX4_passes_19_l2 n a0 s) v2 (upS σ 25 ((σ 17 17)).toNatClampNeg (σ 19 (v2).toNatClampNeg))) else none) else none))
set_option maxRecDepth 100000 in
set_option maxHeartbeats 4000000 in
theorem wfX4_passes_19_l2 (X : Scr) : ∀ (n : Nat) (v2 : Int32) (σ : Sto) (z : Unit × Sto), fX4_passes_19_l2 n v2 σ = some z → Rt X RX4 cX4_passes 3 (rmA 0 0) .return_ 2 [(0, .ref 17), (1, .ref 19), (2, .int v2)] [] σ none z.2 := by
  intro n
  induction n with
  | zero =>
    intro v2 σ z h
    rw [fX4_passes_19_l2] at h
    cases h
  | succ n ih =>
    intro v2 σ z h
    rw [fX4_passes_19_l2] at h
    refine Rt.iload_n 2 dX4_passes_2 rfl ?_
    refine Rt.aload_n 1 dX4_passes_3 rfl ?_
    refine Rt.alen 24 ly19 rfl dX4_passes_4 ?_
    refine Rt.icmp_ge 58 dX4_passes_5 (by decide) (fun c1 => ?_) (fun c1 => ?_)
    · replace h := (if_pos c1).symm.trans h
      obtain rfl := Option.some.inj h
      exact Rt.ret (v := none) dX4_passes_58 rfl rfl rfl
    · replace h := (if_neg c1).symm.trans h
      refine Rt.aload_n 0 dX4_passes_8 rfl ?_
      refine gfX4_128 ly17 dX4_passes_9 ?_
      refine Rt.if_eq 30 dX4_passes_12 (by decide) (fun c2 => ?_) (fun c2 => ?_)
      · replace h := (if_pos c2).symm.trans h
        refine Rt.aload_n 1 dX4_passes_30 rfl ?_
        refine Rt.iload_n 2 dX4_passes_31 rfl ?_
        refine Rt.aload_n 0 dX4_passes_32 rfl ?_
        refine gfX4_31 ly17 dX4_passes_33 ?_
        refine Rt.aload_n 0 dX4_passes_36 rfl ?_
        refine gfX4_132 ly17 dX4_passes_37 ?_
        obtain ⟨g3, h⟩ := gd h
        refine Rt.iald ly25 g3 dX4_passes_40 ?_
        obtain ⟨g4, h⟩ := gd h
        refine Rt.iast ly19 g4 dX4_passes_41 ?_
        exact wfX4_passes_19_b42 X (fun a0 s => fX4_passes_19_l2 n a0 s) ih v2 _ z h
      · replace h := (if_neg c2).symm.trans h
        refine Rt.aload_n 0 dX4_passes_15 rfl ?_
        refine gfX4_31 ly17 dX4_passes_16 ?_
        refine Rt.aload_n 0 dX4_passes_19 rfl ?_
        refine gfX4_132 ly17 dX4_passes_20 ?_
        refine Rt.aload_n 1 dX4_passes_23 rfl ?_
        refine Rt.iload_n 2 dX4_passes_24 rfl ?_
        obtain ⟨g5, h⟩ := gd h
        refine Rt.iald ly19 g5 dX4_passes_25 ?_
        obtain ⟨g6, h⟩ := gd h
        refine Rt.iast ly25 g6 dX4_passes_26 ?_
        refine Rt.goto 42 dX4_passes_27 (by decide) ?_
        exact wfX4_passes_19_b42 X (fun a0 s => fX4_passes_19_l2 n a0 s) ih v2 _ z h
def fX4_passes_19 (σ : Sto) : Option (Unit × Sto) := fX4_passes_19_l2 300 (0 : Int32) σ
set_option maxRecDepth 100000 in
set_option maxHeartbeats 4000000 in
theorem wfX4_passes_19 (X : Scr) (σ : Sto) (z : Unit × Sto) (h : fX4_passes_19 σ = some z) : Rt X RX4 cX4_passes 3 (rmA 0 0) .return_ 0 [(0, .ref 17), (1, .ref 19)] [] σ none z.2 := by
  unfold fX4_passes_19 at h
  refine Rt.iconst 0 dX4_passes_0 (by decide) ?_
  refine Rt.istore_n [(2, _), (0, _), (1, _)] dX4_passes_1 (by decide) rfl ?_
  refine Rt.pick [1, 2, 0] rfl ?_
  exact wfX4_passes_19_l2 X 300 (0 : Int32) _ z h
set_option maxRecDepth 100000 in
set_option maxHeartbeats 4000000 in
theorem mfX4_passes_19 (σ : Sto) (z : Unit × Sto) (h : fX4_passes_19 σ = some z) : AM yX4_passes cX4_passes 3 none 0 0 [.ref 17, .ref 19] σ none z.2 := AM.void rfl (Nat.le_of_ble_eq_true rfl) (fun X => wfX4_passes_19 X σ z h)
-- fX4_passes_20
def fX4_passes_20_b42 (k2 : Int32 → Sto → Option (Unit × Sto)) (v2 : Int32) (σ : Sto) : Option (Unit × Sto) := k2 (v2 + (1 : Int32)) (upS σ 17 17 ((σ 17 17) + (1 : Int32)))
set_option maxRecDepth 100000 in
set_option maxHeartbeats 4000000 in
theorem wfX4_passes_20_b42 (X : Scr) (k2 : Int32 → Sto → Option (Unit × Sto)) (hk2 : ∀ (v2 : Int32) (σ : Sto) (z : Unit × Sto), k2 v2 σ = some z → Rt X RX4 cX4_passes 3 (rmA 0 0) .return_ 2 [(0, .ref 17), (1, .ref 20), (2, .int v2)] [] σ none z.2) (v2 : Int32) (σ : Sto) (z : Unit × Sto) (h : fX4_passes_20_b42 k2 v2 σ = some z) : Rt X RX4 cX4_passes 3 (rmA 0 0) .return_ 42 [(0, .ref 17), (1, .ref 20), (2, .int v2)] [] σ none z.2 := by
  unfold fX4_passes_20_b42 at h
  refine Rt.aload_n 0 dX4_passes_42 rfl ?_
  refine Rt.dup dX4_passes_43 rfl ?_
  refine gfX4_132 ly17 dX4_passes_44 ?_
  refine Rt.iconst 1 dX4_passes_47 (by decide) ?_
  refine Rt.iadd dX4_passes_48 ?_
  refine pfX4_132 ly17 dX4_passes_49 ?_
  refine Rt.iinc [(2, _), (0, _), (1, _)] (v2 + (1 : Int32)) 2 dX4_passes_52 rfl rfl (by decide) rfl ?_
  refine Rt.goto 2 dX4_passes_55 (by decide) ?_
  refine Rt.pick [1, 2, 0] rfl ?_
  exact hk2 (v2 + (1 : Int32)) _ z h
def fX4_passes_20_l2 : Nat → Int32 → Sto → Option (Unit × Sto)
  | 0, _, _ => none
  | n + 1, v2, σ => if (4 : Int32) ≤ v2 then (some ((), σ)) else (if (σ 17 16) = 0 then (if inb (σ 17 17) 105 = true then (if inb v2 4 = true then (fX4_passes_20_b42 (fun a0 s => fX4_passes_20_l2 n a0 s) v2 (upS σ 20 (v2).toNatClampNeg (σ 25 ((σ 17 17)).toNatClampNeg))) else none) else none) else (if inb v2 4 = true then (if inb (σ 17 17) 105 = true then (fX4_passes_20_b42 (fun a0 s => fX4_passes_20_l2 n a0 s) v2 (upS σ 25 ((σ 17 17)).toNatClampNeg (σ 20 (v2).toNatClampNeg))) else none) else none))
set_option maxRecDepth 100000 in
set_option maxHeartbeats 4000000 in
theorem wfX4_passes_20_l2 (X : Scr) : ∀ (n : Nat) (v2 : Int32) (σ : Sto) (z : Unit × Sto), fX4_passes_20_l2 n v2 σ = some z → Rt X RX4 cX4_passes 3 (rmA 0 0) .return_ 2 [(0, .ref 17), (1, .ref 20), (2, .int v2)] [] σ none z.2 := by
  intro n
  induction n with
  | zero =>
    intro v2 σ z h
    rw [fX4_passes_20_l2] at h
    cases h
  | succ n ih =>
    intro v2 σ z h
    rw [fX4_passes_20_l2] at h
    refine Rt.iload_n 2 dX4_passes_2 rfl ?_
    refine Rt.aload_n 1 dX4_passes_3 rfl ?_
    refine Rt.alen 4 ly20 rfl dX4_passes_4 ?_
    refine Rt.icmp_ge 58 dX4_passes_5 (by decide) (fun c1 => ?_) (fun c1 => ?_)
    · replace h := (if_pos c1).symm.trans h
      obtain rfl := Option.some.inj h
      exact Rt.ret (v := none) dX4_passes_58 rfl rfl rfl
    · replace h := (if_neg c1).symm.trans h
      refine Rt.aload_n 0 dX4_passes_8 rfl ?_
      refine gfX4_128 ly17 dX4_passes_9 ?_
      refine Rt.if_eq 30 dX4_passes_12 (by decide) (fun c2 => ?_) (fun c2 => ?_)
      · replace h := (if_pos c2).symm.trans h
        refine Rt.aload_n 1 dX4_passes_30 rfl ?_
        refine Rt.iload_n 2 dX4_passes_31 rfl ?_
        refine Rt.aload_n 0 dX4_passes_32 rfl ?_
        refine gfX4_31 ly17 dX4_passes_33 ?_
        refine Rt.aload_n 0 dX4_passes_36 rfl ?_
        refine gfX4_132 ly17 dX4_passes_37 ?_
        obtain ⟨g3, h⟩ := gd h
        refine Rt.iald ly25 g3 dX4_passes_40 ?_
        obtain ⟨g4, h⟩ := gd h
        refine Rt.iast ly20 g4 dX4_passes_41 ?_
        exact wfX4_passes_20_b42 X (fun a0 s => fX4_passes_20_l2 n a0 s) ih v2 _ z h
      · replace h := (if_neg c2).symm.trans h
        refine Rt.aload_n 0 dX4_passes_15 rfl ?_
        refine gfX4_31 ly17 dX4_passes_16 ?_
        refine Rt.aload_n 0 dX4_passes_19 rfl ?_
        refine gfX4_132 ly17 dX4_passes_20 ?_
        refine Rt.aload_n 1 dX4_passes_23 rfl ?_
        refine Rt.iload_n 2 dX4_passes_24 rfl ?_
        obtain ⟨g5, h⟩ := gd h
        refine Rt.iald ly20 g5 dX4_passes_25 ?_
        obtain ⟨g6, h⟩ := gd h
        refine Rt.iast ly25 g6 dX4_passes_26 ?_
        refine Rt.goto 42 dX4_passes_27 (by decide) ?_
        exact wfX4_passes_20_b42 X (fun a0 s => fX4_passes_20_l2 n a0 s) ih v2 _ z h
def fX4_passes_20 (σ : Sto) : Option (Unit × Sto) := fX4_passes_20_l2 300 (0 : Int32) σ
set_option maxRecDepth 100000 in
set_option maxHeartbeats 4000000 in
theorem wfX4_passes_20 (X : Scr) (σ : Sto) (z : Unit × Sto) (h : fX4_passes_20 σ = some z) : Rt X RX4 cX4_passes 3 (rmA 0 0) .return_ 0 [(0, .ref 17), (1, .ref 20)] [] σ none z.2 := by
  unfold fX4_passes_20 at h
  refine Rt.iconst 0 dX4_passes_0 (by decide) ?_
  refine Rt.istore_n [(2, _), (0, _), (1, _)] dX4_passes_1 (by decide) rfl ?_
  refine Rt.pick [1, 2, 0] rfl ?_
  exact wfX4_passes_20_l2 X 300 (0 : Int32) _ z h
set_option maxRecDepth 100000 in
set_option maxHeartbeats 4000000 in
theorem mfX4_passes_20 (σ : Sto) (z : Unit × Sto) (h : fX4_passes_20 σ = some z) : AM yX4_passes cX4_passes 3 none 0 0 [.ref 17, .ref 20] σ none z.2 := AM.void rfl (Nat.le_of_ble_eq_true rfl) (fun X => wfX4_passes_20 X σ z h)
-- fX4_passOne
def fX4_passOne_b38 (v2 : Int32) (σ : Sto) : Option (Int32 × Sto) := some (v2, (upS σ 17 17 ((σ 17 17) + (1 : Int32))))
set_option maxRecDepth 100000 in
set_option maxHeartbeats 4000000 in
theorem wfX4_passOne_b38 (X : Scr) (v2 : Int32) (σ : Sto) (z : Int32 × Sto) (h : fX4_passOne_b38 v2 σ = some z) : Rt X RX4 cX4_passOne 3 (rmA 0 0) .ireturn 38 [(0, .ref 17), (2, .int v2)] [] σ (some (.int z.1)) z.2 := by
  unfold fX4_passOne_b38 at h
  refine Rt.aload_n 0 dX4_passOne_38 rfl ?_
  refine Rt.dup dX4_passOne_39 rfl ?_
  refine gfX4_132 ly17 dX4_passOne_40 ?_
  refine Rt.iconst 1 dX4_passOne_43 (by decide) ?_
  refine Rt.iadd dX4_passOne_44 ?_
  refine pfX4_132 ly17 dX4_passOne_45 ?_
  refine Rt.iload_n 1 dX4_passOne_48 rfl ?_
  obtain rfl := Option.some.inj h
  exact Rt.ret (v := some (.int v2)) dX4_passOne_49 rfl rfl rfl
def fX4_passOne_b20 (v1 : Int32) (s0 : Int32) (σ : Sto) : Option (Int32 × Sto) := if (σ 17 16) = 0 then (fX4_passOne_b38 s0 σ) else (if inb (σ 17 17) 105 = true then (fX4_passOne_b38 s0 (upS σ 25 ((σ 17 17)).toNatClampNeg v1)) else none)
set_option maxRecDepth 100000 in
set_option maxHeartbeats 4000000 in
theorem wfX4_passOne_b20 (X : Scr) (v1 : Int32) (s0 : Int32) (σ : Sto) (z : Int32 × Sto) (h : fX4_passOne_b20 v1 s0 σ = some z) : Rt X RX4 cX4_passOne 3 (rmA 0 0) .ireturn 20 [(0, .ref 17), (1, .int v1)] [.int s0] σ (some (.int z.1)) z.2 := by
  unfold fX4_passOne_b20 at h
  refine Rt.istore_n [(2, _), (0, _), (1, _)] dX4_passOne_20 (by decide) rfl ?_
  refine Rt.aload_n 1 dX4_passOne_21 rfl ?_
  refine gfX4_128 ly17 dX4_passOne_22 ?_
  refine Rt.if_eq 38 dX4_passOne_25 (by decide) (fun c3 => ?_) (fun c3 => ?_)
  · replace h := (if_pos c3).symm.trans h
    refine Rt.pick [1, 0] rfl ?_
    exact wfX4_passOne_b38 X s0 _ z h
  · replace h := (if_neg c3).symm.trans h
    refine Rt.aload_n 1 dX4_passOne_28 rfl ?_
    refine gfX4_31 ly17 dX4_passOne_29 ?_
    refine Rt.aload_n 1 dX4_passOne_32 rfl ?_
    refine gfX4_132 ly17 dX4_passOne_33 ?_
    refine Rt.iload_n 2 dX4_passOne_36 rfl ?_
    obtain ⟨g4, h⟩ := gd h
    refine Rt.iast ly25 g4 dX4_passOne_37 ?_
    refine Rt.pick [1, 0] rfl ?_
    exact wfX4_passOne_b38 X s0 _ z h
def fX4_passOne (v1 : Int32) (σ : Sto) : Option (Int32 × Sto) := if (σ 17 16) = 0 then (if inb (σ 17 17) 105 = true then (fX4_passOne_b20 v1 (σ 25 ((σ 17 17)).toNatClampNeg) σ) else none) else (fX4_passOne_b20 v1 v1 σ)
set_option maxRecDepth 100000 in
set_option maxHeartbeats 4000000 in
theorem wfX4_passOne (X : Scr) (v1 : Int32) (σ : Sto) (z : Int32 × Sto) (h : fX4_passOne v1 σ = some z) : Rt X RX4 cX4_passOne 3 (rmA 0 0) .ireturn 0 [(0, .ref 17), (1, .int v1)] [] σ (some (.int z.1)) z.2 := by
  unfold fX4_passOne at h
  refine Rt.aload_n 0 dX4_passOne_0 rfl ?_
  refine gfX4_128 ly17 dX4_passOne_1 ?_
  refine Rt.if_eq 11 dX4_passOne_4 (by decide) (fun c1 => ?_) (fun c1 => ?_)
  · replace h := (if_pos c1).symm.trans h
    refine Rt.aload_n 0 dX4_passOne_11 rfl ?_
    refine gfX4_31 ly17 dX4_passOne_12 ?_
    refine Rt.aload_n 0 dX4_passOne_15 rfl ?_
    refine gfX4_132 ly17 dX4_passOne_16 ?_
    obtain ⟨g2, h⟩ := gd h
    refine Rt.iald ly25 g2 dX4_passOne_19 ?_
    exact wfX4_passOne_b20 X v1 (σ 25 ((σ 17 17)).toNatClampNeg) _ z h
  · replace h := (if_neg c1).symm.trans h
    refine Rt.iload_n 1 dX4_passOne_7 rfl ?_
    refine Rt.goto 20 dX4_passOne_8 (by decide) ?_
    exact wfX4_passOne_b20 X v1 v1 _ z h
set_option maxRecDepth 100000 in
set_option maxHeartbeats 4000000 in
theorem mfX4_passOne (v1 : Int32) (σ : Sto) (z : Int32 × Sto) (h : fX4_passOne v1 σ = some z) : AM yX4_passOne cX4_passOne 3 (some .int) 0 0 [.ref 17, .int v1] σ (some (.int z.1)) z.2 := AM.int rfl (Nat.le_of_ble_eq_true rfl) (fun X => wfX4_passOne X v1 σ z h)
-- fX4_passesAll
def fX4_passesAll_b65 (σ : Sto) : Option (Unit × Sto) := (fX4_passOne (σ 17 6) σ).bind fun q6 => some ((), (upS q6.2 17 6 q6.1))
set_option maxRecDepth 100000 in
set_option maxHeartbeats 4000000 in
theorem wfX4_passesAll_b65 (X : Scr) (σ : Sto) (z : Unit × Sto) (h : fX4_passesAll_b65 σ = some z) : Rt X RX4 cX4_passesAll 3 (rmA 1 22) .return_ 65 [(0, .ref 17)] [] σ none z.2 := by
  unfold fX4_passesAll_b65 at h
  refine Rt.aload_n 0 dX4_passesAll_65 rfl ?_
  refine Rt.aload_n 0 dX4_passesAll_66 rfl ?_
  refine Rt.aload_n 0 dX4_passesAll_67 rfl ?_
  refine gfX4_110 ly17 dX4_passesAll_68 ?_
  obtain ⟨q6, e6, h⟩ := bnd h
  refine Rt.cV (mfX4_passOne (σ 17 6) _ q6 e6) lkX4_139 ly17 rfl rfl rfl ⟨Nat.le_of_ble_eq_true rfl, Nat.le_of_ble_eq_true rfl⟩ (Nat.le_of_ble_eq_true rfl) rfl dX4_passesAll_71 ?_
  refine pfX4_110 ly17 dX4_passesAll_74 ?_
  obtain rfl := Option.some.inj h
  exact Rt.ret (v := none) dX4_passesAll_77 rfl rfl rfl
def fX4_passesAll_b53 (σ : Sto) : Option (Unit × Sto) := (fX4_passOne (σ 17 5) σ).bind fun q5 => fX4_passesAll_b65 (upS q5.2 17 5 q5.1)
set_option maxRecDepth 100000 in
set_option maxHeartbeats 4000000 in
theorem wfX4_passesAll_b53 (X : Scr) (σ : Sto) (z : Unit × Sto) (h : fX4_passesAll_b53 σ = some z) : Rt X RX4 cX4_passesAll 3 (rmA 1 22) .return_ 53 [(0, .ref 17)] [] σ none z.2 := by
  unfold fX4_passesAll_b53 at h
  refine Rt.aload_n 0 dX4_passesAll_53 rfl ?_
  refine Rt.aload_n 0 dX4_passesAll_54 rfl ?_
  refine Rt.aload_n 0 dX4_passesAll_55 rfl ?_
  refine gfX4_142 ly17 dX4_passesAll_56 ?_
  obtain ⟨q5, e5, h⟩ := bnd h
  refine Rt.cV (mfX4_passOne (σ 17 5) _ q5 e5) lkX4_139 ly17 rfl rfl rfl ⟨Nat.le_of_ble_eq_true rfl, Nat.le_of_ble_eq_true rfl⟩ (Nat.le_of_ble_eq_true rfl) rfl dX4_passesAll_59 ?_
  refine pfX4_142 ly17 dX4_passesAll_62 ?_
  exact wfX4_passesAll_b65 X _ z h
def fX4_passesAll_b41 (σ : Sto) : Option (Unit × Sto) := (fX4_passOne (σ 17 4) σ).bind fun q4 => fX4_passesAll_b53 (upS q4.2 17 4 q4.1)
set_option maxRecDepth 100000 in
set_option maxHeartbeats 4000000 in
theorem wfX4_passesAll_b41 (X : Scr) (σ : Sto) (z : Unit × Sto) (h : fX4_passesAll_b41 σ = some z) : Rt X RX4 cX4_passesAll 3 (rmA 1 22) .return_ 41 [(0, .ref 17)] [] σ none z.2 := by
  unfold fX4_passesAll_b41 at h
  refine Rt.aload_n 0 dX4_passesAll_41 rfl ?_
  refine Rt.aload_n 0 dX4_passesAll_42 rfl ?_
  refine Rt.aload_n 0 dX4_passesAll_43 rfl ?_
  refine gfX4_101 ly17 dX4_passesAll_44 ?_
  obtain ⟨q4, e4, h⟩ := bnd h
  refine Rt.cV (mfX4_passOne (σ 17 4) _ q4 e4) lkX4_139 ly17 rfl rfl rfl ⟨Nat.le_of_ble_eq_true rfl, Nat.le_of_ble_eq_true rfl⟩ (Nat.le_of_ble_eq_true rfl) rfl dX4_passesAll_47 ?_
  refine pfX4_101 ly17 dX4_passesAll_50 ?_
  exact wfX4_passesAll_b53 X _ z h
def fX4_passesAll_b13 (σ : Sto) : Option (Unit × Sto) := (fX4_passes_19 σ).bind fun q1 => (fX4_passes_20 q1.2).bind fun q2 => (fX4_passOne (q2.2 17 3) q2.2).bind fun q3 => fX4_passesAll_b41 (upS q3.2 17 3 q3.1)
set_option maxRecDepth 100000 in
set_option maxHeartbeats 4000000 in
theorem wfX4_passesAll_b13 (X : Scr) (σ : Sto) (z : Unit × Sto) (h : fX4_passesAll_b13 σ = some z) : Rt X RX4 cX4_passesAll 3 (rmA 1 22) .return_ 13 [(0, .ref 17)] [] σ none z.2 := by
  unfold fX4_passesAll_b13 at h
  refine Rt.aload_n 0 dX4_passesAll_13 rfl ?_
  refine Rt.aload_n 0 dX4_passesAll_14 rfl ?_
  refine gfX4_13 ly17 dX4_passesAll_15 ?_
  obtain ⟨q1, e1, h⟩ := bnd h
  refine Rt.cV0 (mfX4_passes_19 _ q1 e1) lkX4_135 ly17 rfl rfl rfl ⟨Nat.le_of_ble_eq_true rfl, Nat.le_of_ble_eq_true rfl⟩ (Nat.le_of_ble_eq_true rfl) rfl dX4_passesAll_18 ?_
  refine Rt.aload_n 0 dX4_passesAll_21 rfl ?_
  refine Rt.aload_n 0 dX4_passesAll_22 rfl ?_
  refine gfX4_16 ly17 dX4_passesAll_23 ?_
  obtain ⟨q2, e2, h⟩ := bnd h
  refine Rt.cV0 (mfX4_passes_20 _ q2 e2) lkX4_135 ly17 rfl rfl rfl ⟨Nat.le_of_ble_eq_true rfl, Nat.le_of_ble_eq_true rfl⟩ (Nat.le_of_ble_eq_true rfl) rfl dX4_passesAll_26 ?_
  refine Rt.aload_n 0 dX4_passesAll_29 rfl ?_
  refine Rt.aload_n 0 dX4_passesAll_30 rfl ?_
  refine Rt.aload_n 0 dX4_passesAll_31 rfl ?_
  refine gfX4_98 ly17 dX4_passesAll_32 ?_
  obtain ⟨q3, e3, h⟩ := bnd h
  refine Rt.cV (mfX4_passOne (q2.2 17 3) _ q3 e3) lkX4_139 ly17 rfl rfl rfl ⟨Nat.le_of_ble_eq_true rfl, Nat.le_of_ble_eq_true rfl⟩ (Nat.le_of_ble_eq_true rfl) rfl dX4_passesAll_35 ?_
  refine pfX4_98 ly17 dX4_passesAll_38 ?_
  exact wfX4_passesAll_b41 X _ z h
def fX4_passesAll (v1 : Int32) (v2 : Int32) (σ : Sto) : Option (Unit × Sto) := if v2 = 0 ∨ v2 = 1 then (fX4_passesAll_b13 (upS (upS σ 17 17 ((35 : Int32) * v1)) 17 16 v2)) else none
set_option maxRecDepth 100000 in
set_option maxHeartbeats 4000000 in
theorem wfX4_passesAll (X : Scr) (v1 : Int32) (v2 : Int32) (σ : Sto) (z : Unit × Sto) (h : fX4_passesAll v1 v2 σ = some z) : Rt X RX4 cX4_passesAll 3 (rmA 1 22) .return_ 0 [(0, .ref 17), (1, .int v1), (2, .int v2)] [] σ none z.2 := by
  unfold fX4_passesAll at h
  refine Rt.aload_n 0 dX4_passesAll_0 rfl ?_
  refine Rt.bipush 35 dX4_passesAll_1 (by decide) ?_
  refine Rt.iload_n 1 dX4_passesAll_3 rfl ?_
  refine Rt.imul dX4_passesAll_4 ?_
  refine pfX4_132 ly17 dX4_passesAll_5 ?_
  refine Rt.aload_n 0 dX4_passesAll_8 rfl ?_
  refine Rt.iload_n 2 dX4_passesAll_9 rfl ?_
  obtain ⟨g1, h⟩ := gd h
  refine pfX4_128 ly17 g1 dX4_passesAll_10 ?_
  refine Rt.pick [0] rfl ?_
  exact wfX4_passesAll_b13 X _ z h
set_option maxRecDepth 100000 in
set_option maxHeartbeats 4000000 in
theorem mfX4_passesAll (v1 : Int32) (v2 : Int32) (σ : Sto) (z : Unit × Sto) (h : fX4_passesAll v1 v2 σ = some z) : AM yX4_passesAll cX4_passesAll 3 none 1 22 [.ref 17, .int v1, .int v2] σ none z.2 := AM.void rfl (Nat.le_of_ble_eq_true rfl) (fun X => wfX4_passesAll X v1 v2 σ z h)
-- fX4_leastOf
def fX4_leastOf (v0 : Int32) (σ : Sto) : Option (Int32 × Sto) := if v0 = (1 : Int32) then (some ((1 : Int32), σ)) else (if v0 = (2 : Int32) then (some ((2 : Int32), σ)) else (some ((0 : Int32), σ)))
set_option maxRecDepth 100000 in
set_option maxHeartbeats 4000000 in
theorem wfX4_leastOf (X : Scr) (v0 : Int32) (σ : Sto) (z : Int32 × Sto) (h : fX4_leastOf v0 σ = some z) : Rt X RX4 cX4_leastOf 1 (rmA 0 0) .ireturn 0 [(0, .int v0)] [] σ (some (.int z.1)) z.2 := by
  unfold fX4_leastOf at h
  refine Rt.iload_n 0 dX4_leastOf_0 rfl ?_
  refine Rt.iconst 1 dX4_leastOf_1 (by decide) ?_
  refine Rt.icmp_ne 9 dX4_leastOf_2 (by decide) (fun c1 => ?_) (fun c1 => ?_)
  · replace h := (if_neg c1).symm.trans h
    refine Rt.iload_n 0 dX4_leastOf_9 rfl ?_
    refine Rt.iconst 2 dX4_leastOf_10 (by decide) ?_
    refine Rt.icmp_ne 18 dX4_leastOf_11 (by decide) (fun c2 => ?_) (fun c2 => ?_)
    · replace h := (if_neg c2).symm.trans h
      refine Rt.iconst 0 dX4_leastOf_18 (by decide) ?_
      obtain rfl := Option.some.inj h
      exact Rt.ret (v := some (.int (0 : Int32))) dX4_leastOf_19 rfl rfl rfl
    · replace h := (if_pos c2).symm.trans h
      refine Rt.iconst 2 dX4_leastOf_14 (by decide) ?_
      refine Rt.goto 19 dX4_leastOf_15 (by decide) ?_
      obtain rfl := Option.some.inj h
      exact Rt.ret (v := some (.int (2 : Int32))) dX4_leastOf_19 rfl rfl rfl
  · replace h := (if_pos c1).symm.trans h
    refine Rt.iconst 1 dX4_leastOf_5 (by decide) ?_
    refine Rt.goto 19 dX4_leastOf_6 (by decide) ?_
    obtain rfl := Option.some.inj h
    exact Rt.ret (v := some (.int (1 : Int32))) dX4_leastOf_19 rfl rfl rfl
set_option maxRecDepth 100000 in
set_option maxHeartbeats 4000000 in
theorem mfX4_leastOf (v0 : Int32) (σ : Sto) (z : Int32 × Sto) (h : fX4_leastOf v0 σ = some z) : AM yX4_leastOf cX4_leastOf 1 (some .int) 0 0 [.int v0] σ (some (.int z.1)) z.2 := AM.int rfl (Nat.le_of_ble_eq_true rfl) (fun X => wfX4_leastOf X v0 σ z h)
-- fX4_mostOf
def fX4_mostOf (v0 : Int32) (σ : Sto) : Option (Int32 × Sto) := if v0 = 0 then (some ((1 : Int32), σ)) else (if v0 = (1 : Int32) then (some ((3 : Int32), σ)) else (some ((5 : Int32), σ)))
set_option maxRecDepth 100000 in
set_option maxHeartbeats 4000000 in
theorem wfX4_mostOf (X : Scr) (v0 : Int32) (σ : Sto) (z : Int32 × Sto) (h : fX4_mostOf v0 σ = some z) : Rt X RX4 cX4_mostOf 1 (rmA 0 0) .ireturn 0 [(0, .int v0)] [] σ (some (.int z.1)) z.2 := by
  unfold fX4_mostOf at h
  refine Rt.iload_n 0 dX4_mostOf_0 rfl ?_
  refine Rt.if_ne 8 dX4_mostOf_1 (by decide) (fun c1 => ?_) (fun c1 => ?_)
  · replace h := (if_neg c1).symm.trans h
    refine Rt.iload_n 0 dX4_mostOf_8 rfl ?_
    refine Rt.iconst 1 dX4_mostOf_9 (by decide) ?_
    refine Rt.icmp_ne 17 dX4_mostOf_10 (by decide) (fun c2 => ?_) (fun c2 => ?_)
    · replace h := (if_neg c2).symm.trans h
      refine Rt.iconst 5 dX4_mostOf_17 (by decide) ?_
      obtain rfl := Option.some.inj h
      exact Rt.ret (v := some (.int (5 : Int32))) dX4_mostOf_18 rfl rfl rfl
    · replace h := (if_pos c2).symm.trans h
      refine Rt.iconst 3 dX4_mostOf_13 (by decide) ?_
      refine Rt.goto 18 dX4_mostOf_14 (by decide) ?_
      obtain rfl := Option.some.inj h
      exact Rt.ret (v := some (.int (3 : Int32))) dX4_mostOf_18 rfl rfl rfl
  · replace h := (if_pos c1).symm.trans h
    refine Rt.iconst 1 dX4_mostOf_4 (by decide) ?_
    refine Rt.goto 18 dX4_mostOf_5 (by decide) ?_
    obtain rfl := Option.some.inj h
    exact Rt.ret (v := some (.int (1 : Int32))) dX4_mostOf_18 rfl rfl rfl
set_option maxRecDepth 100000 in
set_option maxHeartbeats 4000000 in
theorem mfX4_mostOf (v0 : Int32) (σ : Sto) (z : Int32 × Sto) (h : fX4_mostOf v0 σ = some z) : AM yX4_mostOf cX4_mostOf 1 (some .int) 0 0 [.int v0] σ (some (.int z.1)) z.2 := AM.int rfl (Nat.le_of_ble_eq_true rfl) (fun X => wfX4_mostOf X v0 σ z h)
-- fX4_comesHe
def fX4_comesHe_l2 : Nat → Int32 → Int32 → Sto → Option (Int32 × Sto)
  | 0, _, _, _ => none
  | n + 1, v1, v2, σ => if (3 : Int32) ≤ v2 then (some ((1 : Int32), σ)) else (if inb (v1 + v2) 120 = true then ((fX4_leastOf v2 σ).bind fun q1 => (fX4_mostOf v2 q1.2).bind fun q2 => (fX4_bound (σ 24 ((v1 + v2)).toNatClampNeg) q1.1 q2.1 q2.2).bind fun q3 => if q3.1 = 0 then (if inb (v1 + v2) 120 = true then (if inb v2 4 = true then (fX4_comesHe_l2 n v1 (v2 + (1 : Int32)) (upS q3.2 20 (v2).toNatClampNeg (q3.2 24 ((v1 + v2)).toNatClampNeg))) else none) else none) else (some ((0 : Int32), q3.2))) else none)
set_option maxRecDepth 100000 in
set_option maxHeartbeats 4000000 in
theorem wfX4_comesHe_l2 (X : Scr) : ∀ (n : Nat) (v1 : Int32) (v2 : Int32) (σ : Sto) (z : Int32 × Sto), fX4_comesHe_l2 n v1 v2 σ = some z → Rt X RX4 cX4_comesHe 3 (rmA 1 22) .ireturn 2 [(0, .ref 17), (1, .int v1), (2, .int v2)] [] σ (some (.int z.1)) z.2 := by
  intro n
  induction n with
  | zero =>
    intro v1 v2 σ z h
    rw [fX4_comesHe_l2] at h
    cases h
  | succ n ih =>
    intro v1 v2 σ z h
    rw [fX4_comesHe_l2] at h
    refine Rt.iload_n 2 dX4_comesHe_2 rfl ?_
    refine Rt.iconst 3 dX4_comesHe_3 (by decide) ?_
    refine Rt.icmp_ge 51 dX4_comesHe_4 (by decide) (fun c1 => ?_) (fun c1 => ?_)
    · replace h := (if_pos c1).symm.trans h
      refine Rt.iconst 1 dX4_comesHe_51 (by decide) ?_
      obtain rfl := Option.some.inj h
      exact Rt.ret (v := some (.int (1 : Int32))) dX4_comesHe_52 rfl rfl rfl
    · replace h := (if_neg c1).symm.trans h
      refine Rt.aload_n 0 dX4_comesHe_7 rfl ?_
      refine gfX4_28 ly17 dX4_comesHe_8 ?_
      refine Rt.iload_n 1 dX4_comesHe_11 rfl ?_
      refine Rt.iload_n 2 dX4_comesHe_12 rfl ?_
      refine Rt.iadd dX4_comesHe_13 ?_
      obtain ⟨g2, h⟩ := gd h
      refine Rt.iald ly24 g2 dX4_comesHe_14 ?_
      refine Rt.iload_n 2 dX4_comesHe_15 rfl ?_
      obtain ⟨q1, e1, h⟩ := bnd h
      refine Rt.cS (mfX4_leastOf v2 _ q1 e1) lkX4_92 rfl ⟨Nat.le_of_ble_eq_true rfl, Nat.le_of_ble_eq_true rfl⟩ (Nat.le_of_ble_eq_true rfl) rfl dX4_comesHe_16 ?_
      refine Rt.iload_n 2 dX4_comesHe_19 rfl ?_
      obtain ⟨q2, e2, h⟩ := bnd h
      refine Rt.cS (mfX4_mostOf v2 _ q2 e2) lkX4_95 rfl ⟨Nat.le_of_ble_eq_true rfl, Nat.le_of_ble_eq_true rfl⟩ (Nat.le_of_ble_eq_true rfl) rfl dX4_comesHe_20 ?_
      obtain ⟨q3, e3, h⟩ := bnd h
      refine Rt.cS (mfX4_bound (σ 24 ((v1 + v2)).toNatClampNeg) q1.1 q2.1 _ q3 e3) lkX4_52 rfl ⟨Nat.le_of_ble_eq_true rfl, Nat.le_of_ble_eq_true rfl⟩ (Nat.le_of_ble_eq_true rfl) rfl dX4_comesHe_23 ?_
      refine Rt.if_eq 31 dX4_comesHe_26 (by decide) (fun c3 => ?_) (fun c3 => ?_)
      · replace h := (if_pos c3).symm.trans h
        refine Rt.aload_n 0 dX4_comesHe_31 rfl ?_
        refine gfX4_16 ly17 dX4_comesHe_32 ?_
        refine Rt.iload_n 2 dX4_comesHe_35 rfl ?_
        refine Rt.aload_n 0 dX4_comesHe_36 rfl ?_
        refine gfX4_28 ly17 dX4_comesHe_37 ?_
        refine Rt.iload_n 1 dX4_comesHe_40 rfl ?_
        refine Rt.iload_n 2 dX4_comesHe_41 rfl ?_
        refine Rt.iadd dX4_comesHe_42 ?_
        obtain ⟨g4, h⟩ := gd h
        refine Rt.iald ly24 g4 dX4_comesHe_43 ?_
        obtain ⟨g5, h⟩ := gd h
        refine Rt.iast ly20 g5 dX4_comesHe_44 ?_
        refine Rt.iinc [(2, _), (0, _), (1, _)] (v2 + (1 : Int32)) 2 dX4_comesHe_45 rfl rfl (by decide) rfl ?_
        refine Rt.goto 2 dX4_comesHe_48 (by decide) ?_
        refine Rt.pick [1, 2, 0] rfl ?_
        exact ih v1 (v2 + (1 : Int32)) _ z h
      · replace h := (if_neg c3).symm.trans h
        refine Rt.iconst 0 dX4_comesHe_29 (by decide) ?_
        obtain rfl := Option.some.inj h
        exact Rt.ret (v := some (.int (0 : Int32))) dX4_comesHe_30 rfl rfl rfl
def fX4_comesHe_e (v1 : Int32) (σ : Sto) : Option (Int32 × Sto) := fX4_comesHe_l2 300 v1 (0 : Int32) σ
set_option maxRecDepth 100000 in
set_option maxHeartbeats 4000000 in
theorem wfX4_comesHe_e (X : Scr) (v1 : Int32) (σ : Sto) (z : Int32 × Sto) (h : fX4_comesHe_e v1 σ = some z) : Rt X RX4 cX4_comesHe 3 (rmA 1 22) .ireturn 0 [(0, .ref 17), (1, .int v1)] [] σ (some (.int z.1)) z.2 := by
  unfold fX4_comesHe_e at h
  refine Rt.iconst 0 dX4_comesHe_0 (by decide) ?_
  refine Rt.istore_n [(2, _), (0, _), (1, _)] dX4_comesHe_1 (by decide) rfl ?_
  refine Rt.pick [1, 2, 0] rfl ?_
  exact wfX4_comesHe_l2 X 300 v1 (0 : Int32) _ z h
def fX4_comesHe (v1 : Int32) (σ : Sto) : Option (Int32 × Sto) := (fX4_comesHe_e v1 σ).bind chkZ
set_option maxRecDepth 100000 in
set_option maxHeartbeats 4000000 in
theorem mfX4_comesHe (v1 : Int32) (σ : Sto) (z : Int32 × Sto) (h : fX4_comesHe v1 σ = some z) : AM yX4_comesHe cX4_comesHe 3 (some .boolean) 1 22 [.ref 17, .int v1] σ (some (.int z.1)) z.2 := by
  obtain ⟨hz, h⟩ := chkZ_ok h
  exact AM.bool hz rfl (Nat.le_of_ble_eq_true rfl) (fun X => wfX4_comesHe_e X v1 σ z h)
