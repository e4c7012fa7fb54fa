-- fX4_isCell
def fX4_isCell_e (v0 : Int32) (σ : Sto) : Option (Int32 × Sto) := if v0 < 0 then (some ((0 : Int32), σ)) else (if (24 : Int32) ≤ v0 then (some ((0 : Int32), σ)) else (some ((1 : Int32), σ)))
set_option maxRecDepth 100000 in
set_option maxHeartbeats 4000000 in
theorem wfX4_isCell_e (X : Scr) (v0 : Int32) (σ : Sto) (z : Int32 × Sto) (h : fX4_isCell_e v0 σ = some z) : Rt X RX4 cX4_isCell 1 (rmA 0 0) .ireturn 0 [(0, .int v0)] [] σ (some (.int z.1)) z.2 := by
  unfold fX4_isCell_e at h
  refine Rt.iload_n 0 dX4_isCell_0 rfl ?_
  refine Rt.if_lt 14 dX4_isCell_1 (by decide) (fun c1 => ?_) (fun c1 => ?_)
  · replace h := (if_pos c1).symm.trans h
    refine Rt.iconst 0 dX4_isCell_14 (by decide) ?_
    obtain rfl := Option.some.inj h
    exact Rt.ret (v := some (.int (0 : Int32))) dX4_isCell_15 rfl rfl rfl
  · replace h := (if_neg c1).symm.trans h
    refine Rt.iload_n 0 dX4_isCell_4 rfl ?_
    refine Rt.bipush 24 dX4_isCell_5 (by decide) ?_
    refine Rt.icmp_ge 14 dX4_isCell_7 (by decide) (fun c2 => ?_) (fun c2 => ?_)
    · replace h := (if_pos c2).symm.trans h
      refine Rt.iconst 0 dX4_isCell_14 (by decide) ?_
      obtain rfl := Option.some.inj h
      exact Rt.ret (v := some (.int (0 : Int32))) dX4_isCell_15 rfl rfl rfl
    · replace h := (if_neg c2).symm.trans h
      refine Rt.iconst 1 dX4_isCell_10 (by decide) ?_
      refine Rt.goto 15 dX4_isCell_11 (by decide) ?_
      obtain rfl := Option.some.inj h
      exact Rt.ret (v := some (.int (1 : Int32))) dX4_isCell_15 rfl rfl rfl
def fX4_isCell (v0 : Int32) (σ : Sto) : Option (Int32 × Sto) := (fX4_isCell_e v0 σ).bind chkZ
set_option maxRecDepth 100000 in
set_option maxHeartbeats 4000000 in
theorem mfX4_isCell (v0 : Int32) (σ : Sto) (z : Int32 × Sto) (h : fX4_isCell v0 σ = some z) : AM yX4_isCell cX4_isCell 1 (some .boolean) 0 0 [.int v0] σ (some (.int z.1)) z.2 := by
  obtain ⟨hz, h⟩ := chkZ_ok h
  exact AM.bool hz rfl (Nat.le_of_ble_eq_true rfl) (fun X => wfX4_isCell_e X v0 σ z h)
-- fX4_apart
def fX4_apart (v0 : Int32) (v1 : Int32) (σ : Sto) : Option (Int32 × Sto) := if v1 ≤ v0 then (some ((v0 - v1), σ)) else (some ((v1 - v0), σ))
set_option maxRecDepth 100000 in
set_option maxHeartbeats 4000000 in
theorem wfX4_apart (X : Scr) (v0 : Int32) (v1 : Int32) (σ : Sto) (z : Int32 × Sto) (h : fX4_apart v0 v1 σ = some z) : Rt X RX4 cX4_apart 2 (rmA 0 0) .ireturn 0 [(0, .int v0), (1, .int v1)] [] σ (some (.int z.1)) z.2 := by
  unfold fX4_apart at h
  refine Rt.iload_n 0 dX4_apart_0 rfl ?_
  refine Rt.iload_n 1 dX4_apart_1 rfl ?_
  refine Rt.icmp_ge 11 dX4_apart_2 (by decide) (fun c1 => ?_) (fun c1 => ?_)
  · replace h := (if_pos c1).symm.trans h
    refine Rt.iload_n 0 dX4_apart_11 rfl ?_
    refine Rt.iload_n 1 dX4_apart_12 rfl ?_
    refine Rt.isub dX4_apart_13 ?_
    obtain rfl := Option.some.inj h
    exact Rt.ret (v := some (.int (v0 - v1))) dX4_apart_14 rfl rfl rfl
  · replace h := (if_neg c1).symm.trans h
    refine Rt.iload_n 1 dX4_apart_5 rfl ?_
    refine Rt.iload_n 0 dX4_apart_6 rfl ?_
    refine Rt.isub dX4_apart_7 ?_
    refine Rt.goto 14 dX4_apart_8 (by decide) ?_
    obtain rfl := Option.some.inj h
    exact Rt.ret (v := some (.int (v1 - v0))) dX4_apart_14 rfl rfl rfl
set_option maxRecDepth 100000 in
set_option maxHeartbeats 4000000 in
theorem mfX4_apart (v0 : Int32) (v1 : Int32) (σ : Sto) (z : Int32 × Sto) (h : fX4_apart v0 v1 σ = some z) : AM yX4_apart cX4_apart 2 (some .int) 0 0 [.int v0, .int v1] σ (some (.int z.1)) z.2 := AM.int rfl (Nat.le_of_ble_eq_true rfl) (fun X => wfX4_apart X v0 v1 σ z h)
-- fX4_isIn
def fX4_isIn_e (v0 : Int32) (v1 : Int32) (v2 : Int32) (σ : Sto) : Option (Int32 × Sto) := if v0 < v1 then (some ((0 : Int32), σ)) else (if v2 < v0 then (some ((0 : Int32), σ)) else (some ((1 : Int32), σ)))
set_option maxRecDepth 100000 in
set_option maxHeartbeats 4000000 in
theorem wfX4_isIn_e (X : Scr) (v0 : Int32) (v1 : Int32) (v2 : Int32) (σ : Sto) (z : Int32 × Sto) (h : fX4_isIn_e v0 v1 v2 σ = some z) : Rt X RX4 cX4_isIn 3 (rmA 0 0) .ireturn 0 [(0, .int v0), (1, .int v1), (2, .int v2)] [] σ (some (.int z.1)) z.2 := by
  unfold fX4_isIn_e at h
  refine Rt.iload_n 0 dX4_isIn_0 rfl ?_
  refine Rt.iload_n 1 dX4_isIn_1 rfl ?_
  refine Rt.icmp_lt 14 dX4_isIn_2 (by decide) (fun c1 => ?_) (fun c1 => ?_)
  · replace h := (if_pos c1).symm.trans h
    refine Rt.iconst 0 dX4_isIn_14 (by decide) ?_
    obtain rfl := Option.some.inj h
    exact Rt.ret (v := some (.int (0 : Int32))) dX4_isIn_15 rfl rfl rfl
  · replace h := (if_neg c1).symm.trans h
    refine Rt.iload_n 0 dX4_isIn_5 rfl ?_
    refine Rt.iload_n 2 dX4_isIn_6 rfl ?_
    refine Rt.icmp_gt 14 dX4_isIn_7 (by decide) (fun c2 => ?_) (fun c2 => ?_)
    · replace h := (if_pos c2).symm.trans h
      refine Rt.iconst 0 dX4_isIn_14 (by decide) ?_
      obtain rfl := Option.some.inj h
      exact Rt.ret (v := some (.int (0 : Int32))) dX4_isIn_15 rfl rfl rfl
    · replace h := (if_neg c2).symm.trans h
      refine Rt.iconst 1 dX4_isIn_10 (by decide) ?_
      refine Rt.goto 15 dX4_isIn_11 (by decide) ?_
      obtain rfl := Option.some.inj h
      exact Rt.ret (v := some (.int (1 : Int32))) dX4_isIn_15 rfl rfl rfl
def fX4_isIn (v0 : Int32) (v1 : Int32) (v2 : Int32) (σ : Sto) : Option (Int32 × Sto) := (fX4_isIn_e v0 v1 v2 σ).bind chkZ
set_option maxRecDepth 100000 in
set_option maxHeartbeats 4000000 in
theorem mfX4_isIn (v0 : Int32) (v1 : Int32) (v2 : Int32) (σ : Sto) (z : Int32 × Sto) (h : fX4_isIn v0 v1 v2 σ = some z) : AM yX4_isIn cX4_isIn 3 (some .boolean) 0 0 [.int v0, .int v1, .int v2] σ (some (.int z.1)) z.2 := by
  obtain ⟨hz, h⟩ := chkZ_ok h
  exact AM.bool hz rfl (Nat.le_of_ble_eq_true rfl) (fun X => wfX4_isIn_e X v0 v1 v2 σ z h)
-- fX4_plainBeside
def fX4_plainBeside_b32 (σ : Sto) : Option (Int32 × Sto) := some ((σ 17 4), σ)
set_option maxRecDepth 100000 in
set_option maxHeartbeats 4000000 in
theorem wfX4_plainBeside_b32 (X : Scr) (σ : Sto) (z : Int32 × Sto) (h : fX4_plainBeside_b32 σ = some z) : Rt X RX4 cX4_plainBeside 2 (rmA 1 22) .ireturn 32 [(0, .ref 17)] [] σ (some (.int z.1)) z.2 := by
  unfold fX4_plainBeside_b32 at h
  refine Rt.aload_n 0 dX4_plainBeside_32 rfl ?_
  refine gfX4_101 ly17 dX4_plainBeside_33 ?_
  obtain rfl := Option.some.inj h
  exact Rt.ret (v := some (.int (σ 17 4))) dX4_plainBeside_36 rfl rfl rfl
def fX4_plainBeside_b53 (s0 : Int32) (σ : Sto) : Option (Int32 × Sto) := (fX4_isIn ((irm (σ 17 4) (6 : Int32)) + s0) (0 : Int32) (5 : Int32) σ).bind fun q2 => if q2.1 = 0 then (some ((q2.2 17 4), q2.2)) else (some (((q2.2 17 4) + s0), q2.2))
set_option maxRecDepth 100000 in
set_option maxHeartbeats 4000000 in
theorem wfX4_plainBeside_b53 (X : Scr) (s0 : Int32) (σ : Sto) (z : Int32 × Sto) (h : fX4_plainBeside_b53 s0 σ = some z) : Rt X RX4 cX4_plainBeside 2 (rmA 1 22) .ireturn 53 [(0, .ref 17)] [.int s0] σ (some (.int z.1)) z.2 := by
  unfold fX4_plainBeside_b53 at h
  refine Rt.istore_n [(1, _), (0, _)] dX4_plainBeside_53 (by decide) rfl ?_
  refine Rt.aload_n 1 dX4_plainBeside_54 rfl ?_
  refine gfX4_101 ly17 dX4_plainBeside_55 ?_
  refine Rt.bipush 6 dX4_plainBeside_58 (by decide) ?_
  refine Rt.rem dX4_plainBeside_60 (by decide) ?_
  refine Rt.iload_n 0 dX4_plainBeside_61 rfl ?_
  refine Rt.iadd dX4_plainBeside_62 ?_
  refine Rt.iconst 0 dX4_plainBeside_63 (by decide) ?_
  refine Rt.iconst 5 dX4_plainBeside_64 (by decide) ?_
  obtain ⟨q2, e2, h⟩ := bnd h
  refine Rt.cS (mfX4_isIn ((irm (σ 17 4) (6 : Int32)) + s0) (0 : Int32) (5 : Int32) _ q2 e2) lkX4_71 rfl ⟨Nat.le_of_ble_eq_true rfl, Nat.le_of_ble_eq_true rfl⟩ (Nat.le_of_ble_eq_true rfl) rfl dX4_plainBeside_65 ?_
  refine Rt.if_eq 80 dX4_plainBeside_68 (by decide) (fun c4 => ?_) (fun c4 => ?_)
  · replace h := (if_pos c4).symm.trans h
    refine Rt.aload_n 1 dX4_plainBeside_80 rfl ?_
    refine gfX4_101 ly17 dX4_plainBeside_81 ?_
    obtain rfl := Option.some.inj h
    exact Rt.ret (v := some (.int (q2.2 17 4))) dX4_plainBeside_84 rfl rfl rfl
  · replace h := (if_neg c4).symm.trans h
    refine Rt.aload_n 1 dX4_plainBeside_71 rfl ?_
    refine gfX4_101 ly17 dX4_plainBeside_72 ?_
    refine Rt.iload_n 0 dX4_plainBeside_75 rfl ?_
    refine Rt.iadd dX4_plainBeside_76 ?_
    refine Rt.goto 84 dX4_plainBeside_77 (by decide) ?_
    obtain rfl := Option.some.inj h
    exact Rt.ret (v := some (.int ((q2.2 17 4) + s0))) dX4_plainBeside_84 rfl rfl rfl
def fX4_plainBeside (σ : Sto) : Option (Int32 × Sto) := if ((σ 17 4) / (6 : Int32)) = ((σ 17 5) / (6 : Int32)) then ((fX4_apart (σ 17 4) (σ 17 5) σ).bind fun q1 => if q1.1 = (1 : Int32) then (if (q1.2 17 4) ≤ (q1.2 17 5) then (fX4_plainBeside_b53 (-1 : Int32) q1.2) else (fX4_plainBeside_b53 (1 : Int32) q1.2)) else (fX4_plainBeside_b32 q1.2)) else (fX4_plainBeside_b32 σ)
set_option maxRecDepth 100000 in
set_option maxHeartbeats 4000000 in
theorem wfX4_plainBeside (X : Scr) (σ : Sto) (z : Int32 × Sto) (h : fX4_plainBeside σ = some z) : Rt X RX4 cX4_plainBeside 2 (rmA 1 22) .ireturn 0 [(0, .ref 17)] [] σ (some (.int z.1)) z.2 := by
  unfold fX4_plainBeside at h
  refine Rt.aload_n 0 dX4_plainBeside_0 rfl ?_
  refine gfX4_101 ly17 dX4_plainBeside_1 ?_
  refine Rt.bipush 6 dX4_plainBeside_4 (by decide) ?_
  refine Rt.idiv dX4_plainBeside_6 (by decide) ?_
  refine Rt.aload_n 0 dX4_plainBeside_7 rfl ?_
  refine gfX4_142 ly17 dX4_plainBeside_8 ?_
  refine Rt.bipush 6 dX4_plainBeside_11 (by decide) ?_
  refine Rt.idiv dX4_plainBeside_13 (by decide) ?_
  refine Rt.icmp_ne 32 dX4_plainBeside_14 (by decide) (fun c1 => ?_) (fun c1 => ?_)
  · replace h := (if_neg c1).symm.trans h
    exact wfX4_plainBeside_b32 X _ z h
  · replace h := (if_pos c1).symm.trans h
    refine Rt.aload_n 0 dX4_plainBeside_17 rfl ?_
    refine gfX4_101 ly17 dX4_plainBeside_18 ?_
    refine Rt.aload_n 0 dX4_plainBeside_21 rfl ?_
    refine gfX4_142 ly17 dX4_plainBeside_22 ?_
    obtain ⟨q1, e1, h⟩ := bnd h
    refine Rt.cS (mfX4_apart (σ 17 4) (σ 17 5) _ q1 e1) lkX4_48 rfl ⟨Nat.le_of_ble_eq_true rfl, Nat.le_of_ble_eq_true rfl⟩ (Nat.le_of_ble_eq_true rfl) rfl dX4_plainBeside_25 ?_
    refine Rt.iconst 1 dX4_plainBeside_28 (by decide) ?_
    refine Rt.icmp_eq 37 dX4_plainBeside_29 (by decide) (fun c2 => ?_) (fun c2 => ?_)
    · replace h := (if_pos c2).symm.trans h
      refine Rt.aload_n 0 dX4_plainBeside_37 rfl ?_
      refine gfX4_101 ly17 dX4_plainBeside_38 ?_
      refine Rt.aload_n 0 dX4_plainBeside_41 rfl ?_
      refine gfX4_142 ly17 dX4_plainBeside_42 ?_
      refine Rt.icmp_le 52 dX4_plainBeside_45 (by decide) (fun c3 => ?_) (fun c3 => ?_)
      · replace h := (if_pos c3).symm.trans h
        refine Rt.iconst (-1) dX4_plainBeside_52 (by decide) ?_
        exact wfX4_plainBeside_b53 X (-1 : Int32) _ z h
      · replace h := (if_neg c3).symm.trans h
        refine Rt.iconst 1 dX4_plainBeside_48 (by decide) ?_
        refine Rt.goto 53 dX4_plainBeside_49 (by decide) ?_
        exact wfX4_plainBeside_b53 X (1 : Int32) _ z h
    · replace h := (if_neg c2).symm.trans h
      exact wfX4_plainBeside_b32 X _ z h
set_option maxRecDepth 100000 in
set_option maxHeartbeats 4000000 in
theorem mfX4_plainBeside (σ : Sto) (z : Int32 × Sto) (h : fX4_plainBeside σ = some z) : AM yX4_plainBeside cX4_plainBeside 2 (some .int) 1 22 [.ref 17] σ (some (.int z.1)) z.2 := AM.int rfl (Nat.le_of_ble_eq_true rfl) (fun X => wfX4_plainBeside X σ z h)
-- fX4_creepsBeside
def fX4_creepsBeside_b31 (σ : Sto) : Option (Int32 × Sto) := (fX4_plainBeside σ).bind fun q1 => some (q1.1, q1.2)
set_option maxRecDepth 100000 in
set_option maxHeartbeats 4000000 in
theorem wfX4_creepsBeside_b31 (X : Scr) (σ : Sto) (z : Int32 × Sto) (h : fX4_creepsBeside_b31 σ = some z) : Rt X RX4 cX4_creepsBeside 1 (rmA 2 43) .ireturn 31 [(0, .ref 17)] [] σ (some (.int z.1)) z.2 := by
  unfold fX4_creepsBeside_b31 at h
  refine Rt.aload_n 0 dX4_creepsBeside_31 rfl ?_
  obtain ⟨q1, e1, h⟩ := bnd h
  refine Rt.cV (mfX4_plainBeside _ q1 e1) lkX4_148 ly17 rfl rfl rfl ⟨Nat.le_of_ble_eq_true rfl, Nat.le_of_ble_eq_true rfl⟩ (Nat.le_of_ble_eq_true rfl) rfl dX4_creepsBeside_32 ?_
  obtain rfl := Option.some.inj h
  exact Rt.ret (v := some (.int q1.1)) dX4_creepsBeside_35 rfl rfl rfl
def fX4_creepsBeside (σ : Sto) : Option (Int32 × Sto) := if (irm (σ 17 6) (3 : Int32)) = 0 then (if (24 : Int32) ≤ ((σ 17 4) + (6 : Int32)) then (fX4_creepsBeside_b31 σ) else (some (((σ 17 4) + (6 : Int32)), σ))) else (fX4_creepsBeside_b31 σ)
set_option maxRecDepth 100000 in
set_option maxHeartbeats 4000000 in
theorem wfX4_creepsBeside (X : Scr) (σ : Sto) (z : Int32 × Sto) (h : fX4_creepsBeside σ = some z) : Rt X RX4 cX4_creepsBeside 1 (rmA 2 43) .ireturn 0 [(0, .ref 17)] [] σ (some (.int z.1)) z.2 := by
  unfold fX4_creepsBeside at h
  refine Rt.aload_n 0 dX4_creepsBeside_0 rfl ?_
  refine gfX4_110 ly17 dX4_creepsBeside_1 ?_
  refine Rt.iconst 3 dX4_creepsBeside_4 (by decide) ?_
  refine Rt.rem dX4_creepsBeside_5 (by decide) ?_
  refine Rt.if_ne 31 dX4_creepsBeside_6 (by decide) (fun c1 => ?_) (fun c1 => ?_)
  · replace h := (if_neg c1).symm.trans h
    exact wfX4_creepsBeside_b31 X _ z h
  · replace h := (if_pos c1).symm.trans h
    refine Rt.aload_n 0 dX4_creepsBeside_9 rfl ?_
    refine gfX4_101 ly17 dX4_creepsBeside_10 ?_
    refine Rt.bipush 6 dX4_creepsBeside_13 (by decide) ?_
    refine Rt.iadd dX4_creepsBeside_15 ?_
    refine Rt.bipush 24 dX4_creepsBeside_16 (by decide) ?_
    refine Rt.icmp_ge 31 dX4_creepsBeside_18 (by decide) (fun c2 => ?_) (fun c2 => ?_)
    · replace h := (if_pos c2).symm.trans h
      exact wfX4_creepsBeside_b31 X _ z h
    · replace h := (if_neg c2).symm.trans h
      refine Rt.aload_n 0 dX4_creepsBeside_21 rfl ?_
      refine gfX4_101 ly17 dX4_creepsBeside_22 ?_
      refine Rt.bipush 6 dX4_creepsBeside_25 (by decide) ?_
      refine Rt.iadd dX4_creepsBeside_27 ?_
      refine Rt.goto 35 dX4_creepsBeside_28 (by decide) ?_
      obtain rfl := Option.some.inj h
      exact Rt.ret (v := some (.int ((σ 17 4) + (6 : Int32)))) dX4_creepsBeside_35 rfl rfl rfl
set_option maxRecDepth 100000 in
set_option maxHeartbeats 4000000 in
theorem mfX4_creepsBeside (σ : Sto) (z : Int32 × Sto) (h : fX4_creepsBeside σ = some z) : AM yX4_creepsBeside cX4_creepsBeside 1 (some .int) 2 43 [.ref 17] σ (some (.int z.1)) z.2 := AM.int rfl (Nat.le_of_ble_eq_true rfl) (fun X => wfX4_creepsBeside X σ z h)
-- fX4_leapsBeside
def fX4_leapsBeside (σ : Sto) : Option (Int32 × Sto) := (fX4_creepsBeside σ).bind fun q1 => if q1.1 = (q1.2 17 4) then (if inb ((((((q1.2 17 4) / (6 : Int32)) * (6 : Int32)) + (6 : Int32)) - (1 : Int32)) - (irm (q1.2 17 4) (6 : Int32))) 24 = true then (if (q1.2 19 (((((((q1.2 17 4) / (6 : Int32)) * (6 : Int32)) + (6 : Int32)) - (1 : Int32)) - (irm (q1.2 17 4) (6 : Int32)))).toNatClampNeg) = 0 then (some (((((((q1.2 17 4) / (6 : Int32)) * (6 : Int32)) + (6 : Int32)) - (1 : Int32)) - (irm (q1.2 17 4) (6 : Int32))), q1.2)) else (some ((q1.2 17 4), q1.2))) else none) else (some (q1.1, q1.2))
set_option maxRecDepth 100000 in
set_option maxHeartbeats 4000000 in
theorem wfX4_leapsBeside (X : Scr) (σ : Sto) (z : Int32 × Sto) (h : fX4_leapsBeside σ = some z) : Rt X RX4 cX4_leapsBeside 3 (rmA 3 63) .ireturn 0 [(0, .ref 17)] [] σ (some (.int z.1)) z.2 := by
  unfold fX4_leapsBeside at h
  refine Rt.aload_n 0 dX4_leapsBeside_0 rfl ?_
  obtain ⟨q1, e1, h⟩ := bnd h
  refine Rt.cV (mfX4_creepsBeside _ q1 e1) lkX4_151 ly17 rfl rfl rfl ⟨Nat.le_of_ble_eq_true rfl, Nat.le_of_ble_eq_true rfl⟩ (Nat.le_of_ble_eq_true rfl) rfl dX4_leapsBeside_1 ?_
  refine Rt.istore_n [(1, _), (0, _)] dX4_leapsBeside_4 (by decide) rfl ?_
  refine Rt.iload_n 0 dX4_leapsBeside_5 rfl ?_
  refine Rt.aload_n 1 dX4_leapsBeside_6 rfl ?_
  refine gfX4_101 ly17 dX4_leapsBeside_7 ?_
  refine Rt.icmp_eq 15 dX4_leapsBeside_10 (by decide) (fun c1 => ?_) (fun c1 => ?_)
  · replace h := (if_pos c1).symm.trans h
    refine Rt.aload_n 1 dX4_leapsBeside_15 rfl ?_
    refine gfX4_101 ly17 dX4_leapsBeside_16 ?_
    refine Rt.bipush 6 dX4_leapsBeside_19 (by decide) ?_
    refine Rt.idiv dX4_leapsBeside_21 (by decide) ?_
    refine Rt.bipush 6 dX4_leapsBeside_22 (by decide) ?_
    refine Rt.imul dX4_leapsBeside_24 ?_
    refine Rt.bipush 6 dX4_leapsBeside_25 (by decide) ?_
    refine Rt.iadd dX4_leapsBeside_27 ?_
    refine Rt.iconst 1 dX4_leapsBeside_28 (by decide) ?_
    refine Rt.isub dX4_leapsBeside_29 ?_
    refine Rt.aload_n 1 dX4_leapsBeside_30 rfl ?_
    refine gfX4_101 ly17 dX4_leapsBeside_31 ?_
    refine Rt.bipush 6 dX4_leapsBeside_34 (by decide) ?_
    refine Rt.rem dX4_leapsBeside_36 (by decide) ?_
    refine Rt.isub dX4_leapsBeside_37 ?_
    refine Rt.istore_n [(2, _), (1, _), (0, _)] dX4_leapsBeside_38 (by decide) rfl ?_
    refine Rt.aload_n 2 dX4_leapsBeside_39 rfl ?_
    refine gfX4_13 ly17 dX4_leapsBeside_40 ?_
    refine Rt.iload_n 0 dX4_leapsBeside_43 rfl ?_
    obtain ⟨g2, h⟩ := gd h
    refine Rt.iald ly19 g2 dX4_leapsBeside_44 ?_
    refine Rt.if_ne 52 dX4_leapsBeside_45 (by decide) (fun c3 => ?_) (fun c3 => ?_)
    · replace h := (if_neg c3).symm.trans h
      refine Rt.aload_n 2 dX4_leapsBeside_52 rfl ?_
      refine gfX4_101 ly17 dX4_leapsBeside_53 ?_
      obtain rfl := Option.some.inj h
      exact Rt.ret (v := some (.int (q1.2 17 4))) dX4_leapsBeside_56 rfl rfl rfl
    · replace h := (if_pos c3).symm.trans h
      refine Rt.iload_n 0 dX4_leapsBeside_48 rfl ?_
      refine Rt.goto 56 dX4_leapsBeside_49 (by decide) ?_
      obtain rfl := Option.some.inj h
      exact Rt.ret (v := some (.int ((((((q1.2 17 4) / (6 : Int32)) * (6 : Int32)) + (6 : Int32)) - (1 : Int32)) - (irm (q1.2 17 4) (6 : Int32))))) dX4_leapsBeside_56 rfl rfl rfl
  · replace h := (if_neg c1).symm.trans h
    refine Rt.iload_n 0 dX4_leapsBeside_13 rfl ?_
    obtain rfl := Option.some.inj h
    exact Rt.ret (v := some (.int q1.1)) dX4_leapsBeside_14 rfl rfl rfl
set_option maxRecDepth 100000 in
set_option maxHeartbeats 4000000 in
theorem mfX4_leapsBeside (σ : Sto) (z : Int32 × Sto) (h : fX4_leapsBeside σ = some z) : AM yX4_leapsBeside cX4_leapsBeside 3 (some .int) 3 63 [.ref 17] σ (some (.int z.1)) z.2 := AM.int rfl (Nat.le_of_ble_eq_true rfl) (fun X => wfX4_leapsBeside X σ z h)
-- fX4_besideBy
def fX4_besideBy (σ : Sto) : Option (Int32 × Sto) := if (σ 17 3) = 1 then ((fX4_creepsBeside σ).bind fun q1 => some (q1.1, q1.2)) else (if (σ 17 3) = 2 then (some ((σ 17 4), σ)) else (if (σ 17 3) = 3 then ((fX4_leapsBeside σ).bind fun q2 => some (q2.1, q2.2)) else (if (σ 17 3) = 4 then (if inb (3 : Int32) 4 = true then (if (σ 20 ((3 : Int32)).toNatClampNeg) ≤ (irm (σ 17 4) (6 : Int32)) then (if inb (3 : Int32) 4 = true then (if (irm (σ 17 4) (6 : Int32)) ≤ (σ 20 ((3 : Int32)).toNatClampNeg) then (some ((σ 17 4), σ)) else (some (((σ 17 4) - (1 : Int32)), σ))) else none) else (some (((σ 17 4) + (1 : Int32)), σ))) else none) else (if (σ 17 3) = 5 then (some ((24 : Int32), σ)) else ((fX4_plainBeside σ).bind fun q3 => some (q3.1, q3.2))))))
set_option maxRecDepth 100000 in
set_option maxHeartbeats 4000000 in
theorem wfX4_besideBy (X : Scr) (σ : Sto) (z : Int32 × Sto) (h : fX4_besideBy σ = some z) : Rt X RX4 cX4_besideBy 1 (rmA 4 85) .ireturn 0 [(0, .ref 17)] [] σ (some (.int z.1)) z.2 := by
  unfold fX4_besideBy at h
  refine Rt.aload_n 0 dX4_besideBy_0 rfl ?_
  refine gfX4_98 ly17 dX4_besideBy_1 ?_
  by_cases sw1_0 : (σ 17 3) = 1
  · replace h := (if_pos sw1_0).symm.trans h
    refine Rt.tsIn 40 dX4_besideBy_4 (by rw [sw1_0] <;> decide) (by rw [sw1_0] <;> decide) (by rw [sw1_0] <;> rfl) (by decide) ?_
    refine Rt.aload_n 0 dX4_besideBy_40 rfl ?_
    obtain ⟨q1, e1, h⟩ := bnd h
    refine Rt.cV (mfX4_creepsBeside _ q1 e1) lkX4_151 ly17 rfl rfl rfl ⟨Nat.le_of_ble_eq_true rfl, Nat.le_of_ble_eq_true rfl⟩ (Nat.le_of_ble_eq_true rfl) rfl dX4_besideBy_41 ?_
    obtain rfl := Option.some.inj h
    exact Rt.ret (v := some (.int q1.1)) dX4_besideBy_44 rfl rfl rfl
  · replace h := (if_neg sw1_0).symm.trans h
    by_cases sw1_1 : (σ 17 3) = 2
    · replace h := (if_pos sw1_1).symm.trans h
      refine Rt.tsIn 45 dX4_besideBy_4 (by rw [sw1_1] <;> decide) (by rw [sw1_1] <;> decide) (by rw [sw1_1] <;> rfl) (by decide) ?_
      refine Rt.aload_n 0 dX4_besideBy_45 rfl ?_
      refine gfX4_101 ly17 dX4_besideBy_46 ?_
      obtain rfl := Option.some.inj h
      exact Rt.ret (v := some (.int (σ 17 4))) dX4_besideBy_49 rfl rfl rfl
    · replace h := (if_neg sw1_1).symm.trans h
      by_cases sw1_2 : (σ 17 3) = 3
      · replace h := (if_pos sw1_2).symm.trans h
        refine Rt.tsIn 50 dX4_besideBy_4 (by rw [sw1_2] <;> decide) (by rw [sw1_2] <;> decide) (by rw [sw1_2] <;> rfl) (by decide) ?_
        refine Rt.aload_n 0 dX4_besideBy_50 rfl ?_
        obtain ⟨q2, e2, h⟩ := bnd h
        refine Rt.cV (mfX4_leapsBeside _ q2 e2) lkX4_154 ly17 rfl rfl rfl ⟨Nat.le_of_ble_eq_true rfl, Nat.le_of_ble_eq_true rfl⟩ (Nat.le_of_ble_eq_true rfl) rfl dX4_besideBy_51 ?_
        obtain rfl := Option.some.inj h
        exact Rt.ret (v := some (.int q2.1)) dX4_besideBy_54 rfl rfl rfl
      · replace h := (if_neg sw1_2).symm.trans h
        by_cases sw1_3 : (σ 17 3) = 4
        · replace h := (if_pos sw1_3).symm.trans h
          refine Rt.tsIn 55 dX4_besideBy_4 (by rw [sw1_3] <;> decide) (by rw [sw1_3] <;> decide) (by rw [sw1_3] <;> rfl) (by decide) ?_
          refine Rt.aload_n 0 dX4_besideBy_55 rfl ?_
          refine gfX4_101 ly17 dX4_besideBy_56 ?_
          refine Rt.bipush 6 dX4_besideBy_59 (by decide) ?_
          refine Rt.rem dX4_besideBy_61 (by decide) ?_
          refine Rt.aload_n 0 dX4_besideBy_62 rfl ?_
          refine gfX4_16 ly17 dX4_besideBy_63 ?_
          refine Rt.iconst 3 dX4_besideBy_66 (by decide) ?_
          obtain ⟨g2, h⟩ := gd h
          refine Rt.iald ly20 g2 dX4_besideBy_67 ?_
          refine Rt.icmp_ge 80 dX4_besideBy_68 (by decide) (fun c3 => ?_) (fun c3 => ?_)
          · replace h := (if_pos c3).symm.trans h
            refine Rt.aload_n 0 dX4_besideBy_80 rfl ?_
            refine gfX4_101 ly17 dX4_besideBy_81 ?_
            refine Rt.bipush 6 dX4_besideBy_84 (by decide) ?_
            refine Rt.rem dX4_besideBy_86 (by decide) ?_
            refine Rt.aload_n 0 dX4_besideBy_87 rfl ?_
            refine gfX4_16 ly17 dX4_besideBy_88 ?_
            refine Rt.iconst 3 dX4_besideBy_91 (by decide) ?_
            obtain ⟨g4, h⟩ := gd h
            refine Rt.iald ly20 g4 dX4_besideBy_92 ?_
            refine Rt.icmp_le 105 dX4_besideBy_93 (by decide) (fun c5 => ?_) (fun c5 => ?_)
            · replace h := (if_pos c5).symm.trans h
              refine Rt.aload_n 0 dX4_besideBy_105 rfl ?_
              refine gfX4_101 ly17 dX4_besideBy_106 ?_
              obtain rfl := Option.some.inj h
              exact Rt.ret (v := some (.int (σ 17 4))) dX4_besideBy_109 rfl rfl rfl
            · replace h := (if_neg c5).symm.trans h
              refine Rt.aload_n 0 dX4_besideBy_96 rfl ?_
              refine gfX4_101 ly17 dX4_besideBy_97 ?_
              refine Rt.iconst 1 dX4_besideBy_100 (by decide) ?_
              refine Rt.isub dX4_besideBy_101 ?_
              refine Rt.goto 109 dX4_besideBy_102 (by decide) ?_
              obtain rfl := Option.some.inj h
              exact Rt.ret (v := some (.int ((σ 17 4) - (1 : Int32)))) dX4_besideBy_109 rfl rfl rfl
          · replace h := (if_neg c3).symm.trans h
            refine Rt.aload_n 0 dX4_besideBy_71 rfl ?_
            refine gfX4_101 ly17 dX4_besideBy_72 ?_
            refine Rt.iconst 1 dX4_besideBy_75 (by decide) ?_
            refine Rt.iadd dX4_besideBy_76 ?_
            refine Rt.goto 109 dX4_besideBy_77 (by decide) ?_
            obtain rfl := Option.some.inj h
            exact Rt.ret (v := some (.int ((σ 17 4) + (1 : Int32)))) dX4_besideBy_109 rfl rfl rfl
        · replace h := (if_neg sw1_3).symm.trans h
          by_cases sw1_4 : (σ 17 3) = 5
          · replace h := (if_pos sw1_4).symm.trans h
            refine Rt.tsIn 110 dX4_besideBy_4 (by rw [sw1_4] <;> decide) (by rw [sw1_4] <;> decide) (by rw [sw1_4] <;> rfl) (by decide) ?_
            refine Rt.bipush 24 dX4_besideBy_110 (by decide) ?_
            obtain rfl := Option.some.inj h
            exact Rt.ret (v := some (.int (24 : Int32))) dX4_besideBy_112 rfl rfl rfl
          · replace h := (if_neg sw1_4).symm.trans h
            have hsw : ((σ 17 3)).toInt < 1 ∨ 5 < ((σ 17 3)).toInt := by
              have w0 := nti 1 (k := 1) rfl sw1_0
              have w1 := nti 2 (k := 2) rfl sw1_1
              have w2 := nti 3 (k := 3) rfl sw1_2
              have w3 := nti 4 (k := 4) rfl sw1_3
              have w4 := nti 5 (k := 5) rfl sw1_4
              omega
            refine Rt.tsOut 113 dX4_besideBy_4 hsw (by decide) ?_
            refine Rt.aload_n 0 dX4_besideBy_113 rfl ?_
            obtain ⟨q3, e3, h⟩ := bnd h
            refine Rt.cV (mfX4_plainBeside _ q3 e3) lkX4_148 ly17 rfl rfl rfl ⟨Nat.le_of_ble_eq_true rfl, Nat.le_of_ble_eq_true rfl⟩ (Nat.le_of_ble_eq_true rfl) rfl dX4_besideBy_114 ?_
            obtain rfl := Option.some.inj h
            exact Rt.ret (v := some (.int q3.1)) dX4_besideBy_117 rfl rfl rfl
set_option maxRecDepth 100000 in
set_option maxHeartbeats 4000000 in
theorem mfX4_besideBy (σ : Sto) (z : Int32 × Sto) (h : fX4_besideBy σ = some z) : AM yX4_besideBy cX4_besideBy 1 (some .int) 4 85 [.ref 17] σ (some (.int z.1)) z.2 := AM.int rfl (Nat.le_of_ble_eq_true rfl) (fun X => wfX4_besideBy X σ z h)
-- fX4_struckBy
def fX4_struckBy (σ : Sto) : Option (Int32 × Sto) := if (σ 17 3) = (3 : Int32) then (some ((irm ((σ 17 4) + (7 : Int32)) (24 : Int32)), σ)) else (if (σ 17 3) = (4 : Int32) then (if inb (σ 17 4) 24 = true then (if (3 : Int32) ≤ (σ 19 ((σ 17 4)).toNatClampNeg) then (some ((24 : Int32), σ)) else (some ((σ 17 4), σ))) else none) else (some ((24 : Int32), σ)))
set_option maxRecDepth 100000 in
set_option maxHeartbeats 4000000 in
theorem wfX4_struckBy (X : Scr) (σ : Sto) (z : Int32 × Sto) (h : fX4_struckBy σ = some z) : Rt X RX4 cX4_struckBy 1 (rmA 0 0) .ireturn 0 [(0, .ref 17)] [] σ (some (.int z.1)) z.2 := by
  unfold fX4_struckBy at h
  refine Rt.aload_n 0 dX4_struckBy_0 rfl ?_
  refine gfX4_98 ly17 dX4_struckBy_1 ?_
  refine Rt.iconst 3 dX4_struckBy_4 (by decide) ?_
  refine Rt.icmp_ne 21 dX4_struckBy_5 (by decide) (fun c1 => ?_) (fun c1 => ?_)
  · replace h := (if_neg c1).symm.trans h
    refine Rt.aload_n 0 dX4_struckBy_21 rfl ?_
    refine gfX4_98 ly17 dX4_struckBy_22 ?_
    refine Rt.iconst 4 dX4_struckBy_25 (by decide) ?_
    refine Rt.icmp_ne 49 dX4_struckBy_26 (by decide) (fun c2 => ?_) (fun c2 => ?_)
    · replace h := (if_neg c2).symm.trans h
      refine Rt.bipush 24 dX4_struckBy_49 (by decide) ?_
      obtain rfl := Option.some.inj h
      exact Rt.ret (v := some (.int (24 : Int32))) dX4_struckBy_51 rfl rfl rfl
    · replace h := (if_pos c2).symm.trans h
      refine Rt.aload_n 0 dX4_struckBy_29 rfl ?_
      refine gfX4_13 ly17 dX4_struckBy_30 ?_
      refine Rt.aload_n 0 dX4_struckBy_33 rfl ?_
      refine gfX4_101 ly17 dX4_struckBy_34 ?_
      obtain ⟨g3, h⟩ := gd h
      refine Rt.iald ly19 g3 dX4_struckBy_37 ?_
      refine Rt.iconst 3 dX4_struckBy_38 (by decide) ?_
      refine Rt.icmp_ge 49 dX4_struckBy_39 (by decide) (fun c4 => ?_) (fun c4 => ?_)
      · replace h := (if_pos c4).symm.trans h
        refine Rt.bipush 24 dX4_struckBy_49 (by decide) ?_
        obtain rfl := Option.some.inj h
        exact Rt.ret (v := some (.int (24 : Int32))) dX4_struckBy_51 rfl rfl rfl
      · replace h := (if_neg c4).symm.trans h
        refine Rt.aload_n 0 dX4_struckBy_42 rfl ?_
        refine gfX4_101 ly17 dX4_struckBy_43 ?_
        refine Rt.goto 51 dX4_struckBy_46 (by decide) ?_
        obtain rfl := Option.some.inj h
        exact Rt.ret (v := some (.int (σ 17 4))) dX4_struckBy_51 rfl rfl rfl
  · replace h := (if_pos c1).symm.trans h
    refine Rt.aload_n 0 dX4_struckBy_8 rfl ?_
    refine gfX4_101 ly17 dX4_struckBy_9 ?_
    refine Rt.bipush 7 dX4_struckBy_12 (by decide) ?_
    refine Rt.iadd dX4_struckBy_14 ?_
    refine Rt.bipush 24 dX4_struckBy_15 (by decide) ?_
    refine Rt.rem dX4_struckBy_17 (by decide) ?_
    refine Rt.goto 51 dX4_struckBy_18 (by decide) ?_
    obtain rfl := Option.some.inj h
    exact Rt.ret (v := some (.int (irm ((σ 17 4) + (7 : Int32)) (24 : Int32)))) dX4_struckBy_51 rfl rfl rfl
set_option maxRecDepth 100000 in
set_option maxHeartbeats 4000000 in
theorem mfX4_struckBy (σ : Sto) (z : Int32 × Sto) (h : fX4_struckBy σ = some z) : AM yX4_struckBy cX4_struckBy 1 (some .int) 0 0 [.ref 17] σ (some (.int z.1)) z.2 := AM.int rfl (Nat.le_of_ble_eq_true rfl) (fun X => wfX4_struckBy X σ z h)
-- fX4_strokes
def fX4_strokes_b70 (σ : Sto) : Option (Unit × Sto) := some ((), (upS σ 17 6 ((σ 17 6) + (1 : Int32))))
set_option maxRecDepth 100000 in
set_option maxHeartbeats 4000000 in
theorem wfX4_strokes_b70 (X : Scr) (σ : Sto) (z : Unit × Sto) (h : fX4_strokes_b70 σ = some z) : Rt X RX4 cX4_strokes 2 (rmA 5 105) .return_ 70 [(0, .ref 17)] [] σ none z.2 := by
  unfold fX4_strokes_b70 at h
  refine Rt.aload_n 0 dX4_strokes_70 rfl ?_
  refine Rt.dup dX4_strokes_71 rfl ?_
  refine gfX4_110 ly17 dX4_strokes_72 ?_
  refine Rt.iconst 1 dX4_strokes_75 (by decide) ?_
  refine Rt.iadd dX4_strokes_76 ?_
  refine pfX4_110 ly17 dX4_strokes_77 ?_
  obtain rfl := Option.some.inj h
  exact Rt.ret (v := none) dX4_strokes_80 rfl rfl rfl
def fX4_strokes_b67 (s0 : Int32) (σ : Sto) : Option (Unit × Sto) := fX4_strokes_b70 (upS σ 17 4 s0)
set_option maxRecDepth 100000 in
set_option maxHeartbeats 4000000 in
theorem wfX4_strokes_b67 (X : Scr) (s0 : Int32) (σ : Sto) (z : Unit × Sto) (h : fX4_strokes_b67 s0 σ = some z) : Rt X RX4 cX4_strokes 2 (rmA 5 105) .return_ 67 [(0, .ref 17)] [.int s0, .ref 17] σ none z.2 := by
  unfold fX4_strokes_b67 at h
  refine pfX4_101 ly17 dX4_strokes_67 ?_
  exact wfX4_strokes_b70 X _ z h
def fX4_strokes_b35 (σ : Sto) : Option (Unit × Sto) := if (σ 17 4) = (24 : Int32) then (fX4_strokes_b70 σ) else (if (σ 17 4) = (σ 17 5) then ((fX4_struckBy σ).bind fun q2 => fX4_strokes_b67 q2.1 q2.2) else ((fX4_besideBy σ).bind fun q1 => fX4_strokes_b67 q1.1 q1.2))
set_option maxRecDepth 100000 in
set_option maxHeartbeats 4000000 in
theorem wfX4_strokes_b35 (X : Scr) (σ : Sto) (z : Unit × Sto) (h : fX4_strokes_b35 σ = some z) : Rt X RX4 cX4_strokes 2 (rmA 5 105) .return_ 35 [(0, .ref 17)] [] σ none z.2 := by
  unfold fX4_strokes_b35 at h
  refine Rt.aload_n 0 dX4_strokes_35 rfl ?_
  refine gfX4_101 ly17 dX4_strokes_36 ?_
  refine Rt.bipush 24 dX4_strokes_39 (by decide) ?_
  refine Rt.icmp_eq 70 dX4_strokes_41 (by decide) (fun c4 => ?_) (fun c4 => ?_)
  · replace h := (if_pos c4).symm.trans h
    exact wfX4_strokes_b70 X _ z h
  · replace h := (if_neg c4).symm.trans h
    refine Rt.aload_n 0 dX4_strokes_44 rfl ?_
    refine Rt.aload_n 0 dX4_strokes_45 rfl ?_
    refine gfX4_101 ly17 dX4_strokes_46 ?_
    refine Rt.aload_n 0 dX4_strokes_49 rfl ?_
    refine gfX4_142 ly17 dX4_strokes_50 ?_
    refine Rt.icmp_ne 63 dX4_strokes_53 (by decide) (fun c5 => ?_) (fun c5 => ?_)
    · replace h := (if_neg c5).symm.trans h
      refine Rt.aload_n 0 dX4_strokes_63 rfl ?_
      obtain ⟨q1, e1, h⟩ := bnd h
      refine Rt.cV (mfX4_besideBy _ q1 e1) lkX4_160 ly17 rfl rfl rfl ⟨Nat.le_of_ble_eq_true rfl, Nat.le_of_ble_eq_true rfl⟩ (Nat.le_of_ble_eq_true rfl) rfl dX4_strokes_64 ?_
      exact wfX4_strokes_b67 X q1.1 _ z h
    · replace h := (if_pos c5).symm.trans h
      refine Rt.aload_n 0 dX4_strokes_56 rfl ?_
      obtain ⟨q2, e2, h⟩ := bnd h
      refine Rt.cV (mfX4_struckBy _ q2 e2) lkX4_157 ly17 rfl rfl rfl ⟨Nat.le_of_ble_eq_true rfl, Nat.le_of_ble_eq_true rfl⟩ (Nat.le_of_ble_eq_true rfl) rfl dX4_strokes_57 ?_
      refine Rt.goto 67 dX4_strokes_60 (by decide) ?_
      exact wfX4_strokes_b67 X q2.1 _ z h
def fX4_strokes_b29 (v1 : Int32) (s0 : Int32) (s1 : Int32) (σ : Sto) : Option (Unit × Sto) := if inb s1 24 = true then (fX4_strokes_b35 (upS (upS σ 19 (s1).toNatClampNeg s0) 17 5 v1)) else none
set_option maxRecDepth 100000 in
set_option maxHeartbeats 4000000 in
theorem wfX4_strokes_b29 (X : Scr) (v1 : Int32) (s0 : Int32) (s1 : Int32) (σ : Sto) (z : Unit × Sto) (h : fX4_strokes_b29 v1 s0 s1 σ = some z) : Rt X RX4 cX4_strokes 2 (rmA 5 105) .return_ 29 [(0, .ref 17), (1, .int v1)] [.int s0, .int s1, .ref 19] σ none z.2 := by
  unfold fX4_strokes_b29 at h
  obtain ⟨g3, h⟩ := gd h
  refine Rt.iast ly19 g3 dX4_strokes_29 ?_
  refine Rt.aload_n 0 dX4_strokes_30 rfl ?_
  refine Rt.iload_n 1 dX4_strokes_31 rfl ?_
  refine pfX4_142 ly17 dX4_strokes_32 ?_
  refine Rt.pick [0] rfl ?_
  exact wfX4_strokes_b35 X _ z h
def fX4_strokes (v1 : Int32) (σ : Sto) : Option (Unit × Sto) := if inb v1 24 = true then (if (9 : Int32) ≤ (σ 19 (v1).toNatClampNeg) then (fX4_strokes_b29 v1 (9 : Int32) v1 σ) else (if inb v1 24 = true then (fX4_strokes_b29 v1 ((σ 19 (v1).toNatClampNeg) + (1 : Int32)) v1 σ) else none)) else none
set_option maxRecDepth 100000 in
set_option maxHeartbeats 4000000 in
theorem wfX4_strokes (X : Scr) (v1 : Int32) (σ : Sto) (z : Unit × Sto) (h : fX4_strokes v1 σ = some z) : Rt X RX4 cX4_strokes 2 (rmA 5 105) .return_ 0 [(0, .ref 17), (1, .int v1)] [] σ none z.2 := by
  unfold fX4_strokes at h
  refine Rt.aload_n 0 dX4_strokes_0 rfl ?_
  refine gfX4_13 ly17 dX4_strokes_1 ?_
  refine Rt.iload_n 1 dX4_strokes_4 rfl ?_
  refine Rt.aload_n 0 dX4_strokes_5 rfl ?_
  refine gfX4_13 ly17 dX4_strokes_6 ?_
  refine Rt.iload_n 1 dX4_strokes_9 rfl ?_
  obtain ⟨g1, h⟩ := gd h
  refine Rt.iald ly19 g1 dX4_strokes_10 ?_
  refine Rt.bipush 9 dX4_strokes_11 (by decide) ?_
  refine Rt.icmp_ge 27 dX4_strokes_13 (by decide) (fun c2 => ?_) (fun c2 => ?_)
  · replace h := (if_pos c2).symm.trans h
    refine Rt.bipush 9 dX4_strokes_27 (by decide) ?_
    exact wfX4_strokes_b29 X v1 (9 : Int32) v1 _ z h
  · replace h := (if_neg c2).symm.trans h
    refine Rt.aload_n 0 dX4_strokes_16 rfl ?_
    refine gfX4_13 ly17 dX4_strokes_17 ?_
    refine Rt.iload_n 1 dX4_strokes_20 rfl ?_
    obtain ⟨g6, h⟩ := gd h
    refine Rt.iald ly19 g6 dX4_strokes_21 ?_
    refine Rt.iconst 1 dX4_strokes_22 (by decide) ?_
    refine Rt.iadd dX4_strokes_23 ?_
    refine Rt.goto 29 dX4_strokes_24 (by decide) ?_
    exact wfX4_strokes_b29 X v1 ((σ 19 (v1).toNatClampNeg) + (1 : Int32)) v1 _ z h
set_option maxRecDepth 100000 in
set_option maxHeartbeats 4000000 in
theorem mfX4_strokes (v1 : Int32) (σ : Sto) (z : Unit × Sto) (h : fX4_strokes v1 σ = some z) : AM yX4_strokes cX4_strokes 2 none 5 105 [.ref 17, .int v1] σ none z.2 := AM.void rfl (Nat.le_of_ble_eq_true rfl) (fun X => wfX4_strokes X v1 σ z h)
-- fX4_comes
def fX4_comes_b74 (σ : Sto) : Option (Int32 × Sto) := (fX4_isCell (σ 17 4) σ).bind fun q2 => some (q2.1, q2.2)
set_option maxRecDepth 100000 in
set_option maxHeartbeats 4000000 in
theorem wfX4_comes_b74 (X : Scr) (σ : Sto) (z : Int32 × Sto) (h : fX4_comes_b74 σ = some z) : Rt X RX4 cX4_comes 3 (rmA 6 126) .ireturn 74 [(0, .ref 17)] [] σ (some (.int z.1)) z.2 := by
  unfold fX4_comes_b74 at h
  refine Rt.aload_n 0 dX4_comes_74 rfl ?_
  refine gfX4_101 ly17 dX4_comes_75 ?_
  obtain ⟨q2, e2, h⟩ := bnd h
  refine Rt.cS (mfX4_isCell (σ 17 4) _ q2 e2) lkX4_104 rfl ⟨Nat.le_of_ble_eq_true rfl, Nat.le_of_ble_eq_true rfl⟩ (Nat.le_of_ble_eq_true rfl) rfl dX4_comes_78 ?_
  obtain rfl := Option.some.inj h
  exact Rt.ret (v := some (.int q2.1)) dX4_comes_81 rfl rfl rfl
def fX4_comes_b100 (v2 : Int32) (σ : Sto) : Option (Int32 × Sto) := if inb v2 120 = true then (if (6 : Int32) ≤ (σ 24 (v2).toNatClampNeg) then (some ((0 : Int32), σ)) else (some ((1 : Int32), σ))) else none
set_option maxRecDepth 100000 in
set_option maxHeartbeats 4000000 in
theorem wfX4_comes_b100 (X : Scr) (v2 : Int32) (σ : Sto) (z : Int32 × Sto) (h : fX4_comes_b100 v2 σ = some z) : Rt X RX4 cX4_comes 3 (rmA 6 126) .ireturn 100 [(0, .ref 17), (2, .int v2)] [] σ (some (.int z.1)) z.2 := by
  unfold fX4_comes_b100 at h
  refine Rt.aload_n 0 dX4_comes_100 rfl ?_
  refine gfX4_28 ly17 dX4_comes_101 ?_
  refine Rt.iload_n 1 dX4_comes_104 rfl ?_
  obtain ⟨g7, h⟩ := gd h
  refine Rt.iald ly24 g7 dX4_comes_105 ?_
  refine Rt.bipush 6 dX4_comes_106 (by decide) ?_
  refine Rt.icmp_ge 115 dX4_comes_108 (by decide) (fun c8 => ?_) (fun c8 => ?_)
  · replace h := (if_pos c8).symm.trans h
    refine Rt.iconst 0 dX4_comes_115 (by decide) ?_
    obtain rfl := Option.some.inj h
    exact Rt.ret (v := some (.int (0 : Int32))) dX4_comes_116 rfl rfl rfl
  · replace h := (if_neg c8).symm.trans h
    refine Rt.iconst 1 dX4_comes_111 (by decide) ?_
    refine Rt.goto 116 dX4_comes_112 (by decide) ?_
    obtain rfl := Option.some.inj h
    exact Rt.ret (v := some (.int (1 : Int32))) dX4_comes_116 rfl rfl rfl
def fX4_comes_e (v1 : Int32) (σ : Sto) : Option (Int32 × Sto) := if inb v1 40 = true then (if (σ 22 (v1).toNatClampNeg) = 104 then ((fX4_comesHe ((3 : Int32) * v1) σ).bind fun q1 => some (q1.1, q1.2)) else (if (σ 22 (v1).toNatClampNeg) = 105 then (if inb ((3 : Int32) * v1) 120 = true then (if inb (((3 : Int32) * v1) + (1 : Int32)) 120 = true then (fX4_comes_b74 (upS (upS σ 17 3 (σ 24 (((3 : Int32) * v1)).toNatClampNeg)) 17 4 ((upS σ 17 3 (σ 24 (((3 : Int32) * v1)).toNatClampNeg)) 24 ((((3 : Int32) * v1) + (1 : Int32))).toNatClampNeg))) else none) else none) else (if (σ 22 (v1).toNatClampNeg) = 109 then (if inb ((3 : Int32) * v1) 120 = true then (if inb (3 : Int32) 4 = true then (fX4_comes_b100 ((3 : Int32) * v1) (upS σ 20 ((3 : Int32)).toNatClampNeg (σ 24 (((3 : Int32) * v1)).toNatClampNeg))) else none) else none) else (if (σ 22 (v1).toNatClampNeg) = 115 then (if inb ((3 : Int32) * v1) 120 = true then ((fX4_isCell (σ 24 (((3 : Int32) * v1)).toNatClampNeg) σ).bind fun q3 => if q3.1 = 0 then (some ((0 : Int32), q3.2)) else (if (q3.2 17 6) = (999 : Int32) then (some ((0 : Int32), q3.2)) else (if inb ((3 : Int32) * v1) 120 = true then ((fX4_strokes (q3.2 24 (((3 : Int32) * v1)).toNatClampNeg) q3.2).bind fun q4 => some ((1 : Int32), q4.2)) else none))) else none) else (if inb ((3 : Int32) * v1) 120 = true then ((fX4_isCell (σ 24 (((3 : Int32) * v1)).toNatClampNeg) σ).bind fun q5 => if q5.1 = 0 then (some ((0 : Int32), q5.2)) else (if inb ((3 : Int32) * v1) 120 = true then (if inb (((3 : Int32) * v1) + (1 : Int32)) 120 = true then (if inb (q5.2 24 (((3 : Int32) * v1)).toNatClampNeg) 24 = true then (some ((1 : Int32), (upS q5.2 19 ((q5.2 24 (((3 : Int32) * v1)).toNatClampNeg)).toNatClampNeg (q5.2 24 ((((3 : Int32) * v1) + (1 : Int32))).toNatClampNeg)))) else none) else none) else none)) else none))))) else none
set_option maxRecDepth 100000 in
set_option maxHeartbeats 4000000 in
theorem wfX4_comes_e (X : Scr) (v1 : Int32) (σ : Sto) (z : Int32 × Sto) (h : fX4_comes_e v1 σ = some z) : Rt X RX4 cX4_comes 3 (rmA 6 126) .ireturn 0 [(0, .ref 17), (1, .int v1)] [] σ (some (.int z.1)) z.2 := by
  unfold fX4_comes_e at h
  refine Rt.iconst 3 dX4_comes_0 (by decide) ?_
  refine Rt.iload_n 1 dX4_comes_1 rfl ?_
  refine Rt.imul dX4_comes_2 ?_
  refine Rt.istore_n [(2, _), (0, _), (1, _)] dX4_comes_3 (by decide) rfl ?_
  refine Rt.aload_n 1 dX4_comes_4 rfl ?_
  refine gfX4_22 ly17 dX4_comes_5 ?_
  refine Rt.iload_n 2 dX4_comes_8 rfl ?_
  obtain ⟨g1, h⟩ := gd h
  refine Rt.iald ly22 g1 dX4_comes_9 ?_
  by_cases sw2_0 : (σ 22 (v1).toNatClampNeg) = 104
  · replace h := (if_pos sw2_0).symm.trans h
    refine Rt.lsw 82 dX4_comes_10 (by decide) (by rw [sw2_0] <;> rfl) (by decide) ?_
    refine Rt.aload_n 1 dX4_comes_82 rfl ?_
    refine Rt.iload_n 0 dX4_comes_83 rfl ?_
    obtain ⟨q1, e1, h⟩ := bnd h
    refine Rt.cV (mfX4_comesHe ((3 : Int32) * v1) _ q1 e1) lkX4_107 ly17 rfl rfl rfl ⟨Nat.le_of_ble_eq_true rfl, Nat.le_of_ble_eq_true rfl⟩ (Nat.le_of_ble_eq_true rfl) rfl dX4_comes_84 ?_
    obtain rfl := Option.some.inj h
    exact Rt.ret (v := some (.int q1.1)) dX4_comes_87 rfl rfl rfl
  · replace h := (if_neg sw2_0).symm.trans h
    by_cases sw2_1 : (σ 22 (v1).toNatClampNeg) = 105
    · replace h := (if_pos sw2_1).symm.trans h
      refine Rt.lsw 52 dX4_comes_10 (by decide) (by rw [sw2_1] <;> rfl) (by decide) ?_
      refine Rt.aload_n 1 dX4_comes_52 rfl ?_
      refine Rt.aload_n 1 dX4_comes_53 rfl ?_
      refine gfX4_28 ly17 dX4_comes_54 ?_
      refine Rt.iload_n 0 dX4_comes_57 rfl ?_
      obtain ⟨g3, h⟩ := gd h
      refine Rt.iald ly24 g3 dX4_comes_58 ?_
      refine pfX4_98 ly17 dX4_comes_59 ?_
      refine Rt.aload_n 1 dX4_comes_62 rfl ?_
      refine Rt.aload_n 1 dX4_comes_63 rfl ?_
      refine gfX4_28 ly17 dX4_comes_64 ?_
      refine Rt.iload_n 0 dX4_comes_67 rfl ?_
      refine Rt.iconst 1 dX4_comes_68 (by decide) ?_
      refine Rt.iadd dX4_comes_69 ?_
      obtain ⟨g4, h⟩ := gd h
      refine Rt.iald ly24 g4 dX4_comes_70 ?_
      refine pfX4_101 ly17 dX4_comes_71 ?_
      refine Rt.pick [1] rfl ?_
      exact wfX4_comes_b74 X _ z h
    · replace h := (if_neg sw2_1).symm.trans h
      by_cases sw2_2 : (σ 22 (v1).toNatClampNeg) = 109
      · replace h := (if_pos sw2_2).symm.trans h
        refine Rt.lsw 88 dX4_comes_10 (by decide) (by rw [sw2_2] <;> rfl) (by decide) ?_
        refine Rt.aload_n 1 dX4_comes_88 rfl ?_
        refine gfX4_16 ly17 dX4_comes_89 ?_
        refine Rt.iconst 3 dX4_comes_92 (by decide) ?_
        refine Rt.aload_n 1 dX4_comes_93 rfl ?_
        refine gfX4_28 ly17 dX4_comes_94 ?_
        refine Rt.iload_n 0 dX4_comes_97 rfl ?_
        obtain ⟨g5, h⟩ := gd h
        refine Rt.iald ly24 g5 dX4_comes_98 ?_
        obtain ⟨g6, h⟩ := gd h
        refine Rt.iast ly20 g6 dX4_comes_99 ?_
        refine Rt.pick [1, 0] rfl ?_
        exact wfX4_comes_b100 X ((3 : Int32) * v1) _ z h
      · replace h := (if_neg sw2_2).symm.trans h
        by_cases sw2_3 : (σ 22 (v1).toNatClampNeg) = 115
        · replace h := (if_pos sw2_3).symm.trans h
          refine Rt.lsw 117 dX4_comes_10 (by decide) (by rw [sw2_3] <;> rfl) (by decide) ?_
          refine Rt.aload_n 1 dX4_comes_117 rfl ?_
          refine gfX4_28 ly17 dX4_comes_118 ?_
          refine Rt.iload_n 0 dX4_comes_121 rfl ?_
          obtain ⟨g9, h⟩ := gd h
          refine Rt.iald ly24 g9 dX4_comes_122 ?_
          obtain ⟨q3, e3, h⟩ := bnd h
          refine Rt.cS (mfX4_isCell (σ 24 (((3 : Int32) * v1)).toNatClampNeg) _ q3 e3) lkX4_104 rfl ⟨Nat.le_of_ble_eq_true rfl, Nat.le_of_ble_eq_true rfl⟩ (Nat.le_of_ble_eq_true rfl) rfl dX4_comes_123 ?_
          refine Rt.if_eq 139 dX4_comes_126 (by decide) (fun c10 => ?_) (fun c10 => ?_)
          · replace h := (if_pos c10).symm.trans h
            refine Rt.iconst 0 dX4_comes_139 (by decide) ?_
            obtain rfl := Option.some.inj h
            exact Rt.ret (v := some (.int (0 : Int32))) dX4_comes_140 rfl rfl rfl
          · replace h := (if_neg c10).symm.trans h
            refine Rt.aload_n 1 dX4_comes_129 rfl ?_
            refine gfX4_110 ly17 dX4_comes_130 ?_
            refine Rt.sipush 999 dX4_comes_133 (by decide) ?_
            refine Rt.icmp_ne 141 dX4_comes_136 (by decide) (fun c11 => ?_) (fun c11 => ?_)
            · replace h := (if_neg c11).symm.trans h
              refine Rt.aload_n 1 dX4_comes_141 rfl ?_
              refine Rt.aload_n 1 dX4_comes_142 rfl ?_
              refine gfX4_28 ly17 dX4_comes_143 ?_
              refine Rt.iload_n 0 dX4_comes_146 rfl ?_
              obtain ⟨g12, h⟩ := gd h
              refine Rt.iald ly24 g12 dX4_comes_147 ?_
              obtain ⟨q4, e4, h⟩ := bnd h
              refine Rt.cV0 (mfX4_strokes (q3.2 24 (((3 : Int32) * v1)).toNatClampNeg) _ q4 e4) lkX4_113 ly17 rfl rfl rfl ⟨Nat.le_of_ble_eq_true rfl, Nat.le_of_ble_eq_true rfl⟩ (Nat.le_of_ble_eq_true rfl) rfl dX4_comes_148 ?_
              refine Rt.iconst 1 dX4_comes_151 (by decide) ?_
              obtain rfl := Option.some.inj h
              exact Rt.ret (v := some (.int (1 : Int32))) dX4_comes_152 rfl rfl rfl
            · replace h := (if_pos c11).symm.trans h
              refine Rt.iconst 0 dX4_comes_139 (by decide) ?_
              obtain rfl := Option.some.inj h
              exact Rt.ret (v := some (.int (0 : Int32))) dX4_comes_140 rfl rfl rfl
        · replace h := (if_neg sw2_3).symm.trans h
          have w0 := nti 104 (k := 104) rfl sw2_0
          have w1 := nti 105 (k := 105) rfl sw2_1
          have w2 := nti 109 (k := 109) rfl sw2_2
          have w3 := nti 115 (k := 115) rfl sw2_3
          refine Rt.lswOut 153 dX4_comes_10 (by decide) (fun q hq => by simp at hq; rcases hq with e | e | e | e <;> subst e <;> first | exact Ne.symm w0 | exact Ne.symm w1 | exact Ne.symm w2 | exact Ne.symm w3) (by decide) ?_
          refine Rt.aload_n 1 dX4_comes_153 rfl ?_
          refine gfX4_28 ly17 dX4_comes_154 ?_
          refine Rt.iload_n 0 dX4_comes_157 rfl ?_
          obtain ⟨g13, h⟩ := gd h
          refine Rt.iald ly24 g13 dX4_comes_158 ?_
          obtain ⟨q5, e5, h⟩ := bnd h
          refine Rt.cS (mfX4_isCell (σ 24 (((3 : Int32) * v1)).toNatClampNeg) _ q5 e5) lkX4_104 rfl ⟨Nat.le_of_ble_eq_true rfl, Nat.le_of_ble_eq_true rfl⟩ (Nat.le_of_ble_eq_true rfl) rfl dX4_comes_159 ?_
          refine Rt.if_ne 167 dX4_comes_162 (by decide) (fun c14 => ?_) (fun c14 => ?_)
          · replace h := (if_neg c14).symm.trans h
            refine Rt.aload_n 1 dX4_comes_167 rfl ?_
            refine gfX4_13 ly17 dX4_comes_168 ?_
            refine Rt.aload_n 1 dX4_comes_171 rfl ?_
            refine gfX4_28 ly17 dX4_comes_172 ?_
            refine Rt.iload_n 0 dX4_comes_175 rfl ?_
            obtain ⟨g15, h⟩ := gd h
            refine Rt.iald ly24 g15 dX4_comes_176 ?_
            refine Rt.aload_n 1 dX4_comes_177 rfl ?_
            refine gfX4_28 ly17 dX4_comes_178 ?_
            refine Rt.iload_n 0 dX4_comes_181 rfl ?_
            refine Rt.iconst 1 dX4_comes_182 (by decide) ?_
            refine Rt.iadd dX4_comes_183 ?_
            obtain ⟨g16, h⟩ := gd h
            refine Rt.iald ly24 g16 dX4_comes_184 ?_
            obtain ⟨g17, h⟩ := gd h
            refine Rt.iast ly19 g17 dX4_comes_185 ?_
            refine Rt.iconst 1 dX4_comes_186 (by decide) ?_
            obtain rfl := Option.some.inj h
            exact Rt.ret (v := some (.int (1 : Int32))) dX4_comes_187 rfl rfl rfl
          · replace h := (if_pos c14).symm.trans h
            refine Rt.iconst 0 dX4_comes_165 (by decide) ?_
            obtain rfl := Option.some.inj h
            exact Rt.ret (v := some (.int (0 : Int32))) dX4_comes_166 rfl rfl rfl
def fX4_comes (v1 : Int32) (σ : Sto) : Option (Int32 × Sto) := (fX4_comes_e v1 σ).bind chkZ
set_option maxRecDepth 100000 in
set_option maxHeartbeats 4000000 in
theorem mfX4_comes (v1 : Int32) (σ : Sto) (z : Int32 × Sto) (h : fX4_comes v1 σ = some z) : AM yX4_comes cX4_comes 3 (some .boolean) 6 126 [.ref 17, .int v1] σ (some (.int z.1)) z.2 := by
  obtain ⟨hz, h⟩ := chkZ_ok h
  exact AM.bool hz rfl (Nat.le_of_ble_eq_true rfl) (fun X => wfX4_comes_e X v1 σ z h)
-- fX4_next
def fX4_next (σ : Sto) : Option (Int32 × Sto) := if (σ 17 11) ≤ (σ 17 12) then (some ((-1 : Int32), σ)) else (if inb (σ 17 12) 80 = true then (some ((σ 21 ((σ 17 12)).toNatClampNeg), σ)) else none)
set_option maxRecDepth 100000 in
set_option maxHeartbeats 4000000 in
theorem wfX4_next (X : Scr) (σ : Sto) (z : Int32 × Sto) (h : fX4_next σ = some z) : Rt X RX4 cX4_next 1 (rmA 0 0) .ireturn 0 [(0, .ref 17)] [] σ (some (.int z.1)) z.2 := by
  unfold fX4_next at h
  refine Rt.aload_n 0 dX4_next_0 rfl ?_
  refine gfX4_64 ly17 dX4_next_1 ?_
  refine Rt.aload_n 0 dX4_next_4 rfl ?_
  refine gfX4_56 ly17 dX4_next_5 ?_
  refine Rt.icmp_ge 23 dX4_next_8 (by decide) (fun c1 => ?_) (fun c1 => ?_)
  · replace h := (if_pos c1).symm.trans h
    refine Rt.iconst (-1) dX4_next_23 (by decide) ?_
    obtain rfl := Option.some.inj h
    exact Rt.ret (v := some (.int (-1 : Int32))) dX4_next_24 rfl rfl rfl
  · replace h := (if_neg c1).symm.trans h
    refine Rt.aload_n 0 dX4_next_11 rfl ?_
    refine gfX4_19 ly17 dX4_next_12 ?_
    refine Rt.aload_n 0 dX4_next_15 rfl ?_
    refine gfX4_64 ly17 dX4_next_16 ?_
    obtain ⟨g2, h⟩ := gd h
    refine Rt.iald ly21 g2 dX4_next_19 ?_
    refine Rt.goto 24 dX4_next_20 (by decide) ?_
    obtain rfl := Option.some.inj h
    exact Rt.ret (v := some (.int (σ 21 ((σ 17 12)).toNatClampNeg))) dX4_next_24 rfl rfl rfl
set_option maxRecDepth 100000 in
set_option maxHeartbeats 4000000 in
theorem mfX4_next (σ : Sto) (z : Int32 × Sto) (h : fX4_next σ = some z) : AM yX4_next cX4_next 1 (some .int) 0 0 [.ref 17] σ (some (.int z.1)) z.2 := AM.int rfl (Nat.le_of_ble_eq_true rfl) (fun X => wfX4_next X σ z h)
-- fX4_readsDigits
def fX4_readsDigits_l5 : Nat → Int32 → Int32 → Int32 → Int32 → Sto → Option (Int32 × Sto)
  | 0, _, _, _, _, _ => none
  | n + 1, v1, v2, v3, v4, σ => if v2 ≤ v4 then (if inb v1 120 = true then (some ((1 : Int32), (upS σ 24 (v1).toNatClampNeg v3))) else none) else ((fX4_next σ).bind fun q1 => (fX4_isIn q1.1 (48 : Int32) (57 : Int32) q1.2).bind fun q2 => if q2.1 = 0 then (some ((0 : Int32), q2.2)) else ((fX4_next q2.2).bind fun q3 => fX4_readsDigits_l5 n v1 v2 ((((10 : Int32) * v3) + q3.1) - (48 : Int32)) (v4 + (1 : Int32)) (upS q3.2 17 12 ((q3.2 17 12) + (1 : Int32)))))
set_option maxRecDepth 100000 in
set_option maxHeartbeats 4000000 in
theorem wfX4_readsDigits_l5 (X : Scr) : ∀ (n : Nat) (v1 : Int32) (v2 : Int32) (v3 : Int32) (v4 : Int32) (σ : Sto) (z : Int32 × Sto), fX4_readsDigits_l5 n v1 v2 v3 v4 σ = some z → Rt X RX4 cX4_readsDigits 5 (rmA 1 22) .ireturn 5 [(0, .ref 17), (1, .int v1), (2, .int v2), (3, .int v3), (4, .int v4)] [] σ (some (.int z.1)) z.2 := by
  intro n
  induction n with
  | zero =>
    intro v1 v2 v3 v4 σ z h
    rw [fX4_readsDigits_l5] at h
    cases h
  | succ n ih =>
    intro v1 v2 v3 v4 σ z h
    rw [fX4_readsDigits_l5] at h
    refine Rt.iload 4 dX4_readsDigits_5 rfl ?_
    refine Rt.iload_n 2 dX4_readsDigits_7 rfl ?_
    refine Rt.icmp_ge 56 dX4_readsDigits_8 (by decide) (fun c1 => ?_) (fun c1 => ?_)
    · replace h := (if_pos c1).symm.trans h
      refine Rt.aload_n 0 dX4_readsDigits_56 rfl ?_
      refine gfX4_28 ly17 dX4_readsDigits_57 ?_
      refine Rt.iload_n 1 dX4_readsDigits_60 rfl ?_
      refine Rt.iload_n 3 dX4_readsDigits_61 rfl ?_
      obtain ⟨g2, h⟩ := gd h
      refine Rt.iast ly24 g2 dX4_readsDigits_62 ?_
      refine Rt.iconst 1 dX4_readsDigits_63 (by decide) ?_
      obtain rfl := Option.some.inj h
      exact Rt.ret (v := some (.int (1 : Int32))) dX4_readsDigits_64 rfl rfl rfl
    · replace h := (if_neg c1).symm.trans h
      refine Rt.aload_n 0 dX4_readsDigits_11 rfl ?_
      obtain ⟨q1, e1, h⟩ := bnd h
      refine Rt.cV (mfX4_next _ q1 e1) lkX4_67 ly17 rfl rfl rfl ⟨Nat.le_of_ble_eq_true rfl, Nat.le_of_ble_eq_true rfl⟩ (Nat.le_of_ble_eq_true rfl) rfl dX4_readsDigits_12 ?_
      refine Rt.bipush 48 dX4_readsDigits_15 (by decide) ?_
      refine Rt.bipush 57 dX4_readsDigits_17 (by decide) ?_
      obtain ⟨q2, e2, h⟩ := bnd h
      refine Rt.cS (mfX4_isIn q1.1 (48 : Int32) (57 : Int32) _ q2 e2) lkX4_71 rfl ⟨Nat.le_of_ble_eq_true rfl, Nat.le_of_ble_eq_true rfl⟩ (Nat.le_of_ble_eq_true rfl) rfl dX4_readsDigits_19 ?_
      refine Rt.if_ne 27 dX4_readsDigits_22 (by decide) (fun c3 => ?_) (fun c3 => ?_)
      · replace h := (if_neg c3).symm.trans h
        refine Rt.bipush 10 dX4_readsDigits_27 (by decide) ?_
        refine Rt.iload_n 3 dX4_readsDigits_29 rfl ?_
        refine Rt.imul dX4_readsDigits_30 ?_
        refine Rt.aload_n 0 dX4_readsDigits_31 rfl ?_
        obtain ⟨q3, e3, h⟩ := bnd h
        refine Rt.cV (mfX4_next _ q3 e3) lkX4_67 ly17 rfl rfl rfl ⟨Nat.le_of_ble_eq_true rfl, Nat.le_of_ble_eq_true rfl⟩ (Nat.le_of_ble_eq_true rfl) rfl dX4_readsDigits_32 ?_
        refine Rt.iadd dX4_readsDigits_35 ?_
        refine Rt.bipush 48 dX4_readsDigits_36 (by decide) ?_
        refine Rt.isub dX4_readsDigits_38 ?_
        refine Rt.istore_n [(3, _), (0, _), (1, _), (2, _), (4, _)] dX4_readsDigits_39 (by decide) rfl ?_
        refine Rt.aload_n 1 dX4_readsDigits_40 rfl ?_
        refine Rt.dup dX4_readsDigits_41 rfl ?_
        refine gfX4_64 ly17 dX4_readsDigits_42 ?_
        refine Rt.iconst 1 dX4_readsDigits_45 (by decide) ?_
        refine Rt.iadd dX4_readsDigits_46 ?_
        refine pfX4_64 ly17 dX4_readsDigits_47 ?_
        refine Rt.iinc [(4, _), (3, _), (0, _), (1, _), (2, _)] (v4 + (1 : Int32)) 4 dX4_readsDigits_50 rfl rfl (by decide) rfl ?_
        refine Rt.goto 5 dX4_readsDigits_53 (by decide) ?_
        refine Rt.pick [2, 3, 4, 1, 0] rfl ?_
        exact ih v1 v2 ((((10 : Int32) * v3) + q3.1) - (48 : Int32)) (v4 + (1 : Int32)) _ z h
      · replace h := (if_pos c3).symm.trans h
        refine Rt.iconst 0 dX4_readsDigits_25 (by decide) ?_
        obtain rfl := Option.some.inj h
        exact Rt.ret (v := some (.int (0 : Int32))) dX4_readsDigits_26 rfl rfl rfl
def fX4_readsDigits_e (v1 : Int32) (v2 : Int32) (σ : Sto) : Option (Int32 × Sto) := fX4_readsDigits_l5 300 v1 v2 (0 : Int32) (0 : Int32) σ
set_option maxRecDepth 100000 in
set_option maxHeartbeats 4000000 in
theorem wfX4_readsDigits_e (X : Scr) (v1 : Int32) (v2 : Int32) (σ : Sto) (z : Int32 × Sto) (h : fX4_readsDigits_e v1 v2 σ = some z) : Rt X RX4 cX4_readsDigits 5 (rmA 1 22) .ireturn 0 [(0, .ref 17), (1, .int v1), (2, .int v2)] [] σ (some (.int z.1)) z.2 := by
  unfold fX4_readsDigits_e at h
  refine Rt.iconst 0 dX4_readsDigits_0 (by decide) ?_
  refine Rt.istore_n [(3, _), (0, _), (1, _), (2, _)] dX4_readsDigits_1 (by decide) rfl ?_
  refine Rt.iconst 0 dX4_readsDigits_2 (by decide) ?_
  refine Rt.istore [(4, _), (3, _), (0, _), (1, _), (2, _)] dX4_readsDigits_3 (by decide) rfl ?_
  refine Rt.pick [2, 3, 4, 1, 0] rfl ?_
  exact wfX4_readsDigits_l5 X 300 v1 v2 (0 : Int32) (0 : Int32) _ z h
def fX4_readsDigits (v1 : Int32) (v2 : Int32) (σ : Sto) : Option (Int32 × Sto) := (fX4_readsDigits_e v1 v2 σ).bind chkZ
set_option maxRecDepth 100000 in
set_option maxHeartbeats 4000000 in
theorem mfX4_readsDigits (v1 : Int32) (v2 : Int32) (σ : Sto) (z : Int32 × Sto) (h : fX4_readsDigits v1 v2 σ = some z) : AM yX4_readsDigits cX4_readsDigits 5 (some .boolean) 1 22 [.ref 17, .int v1, .int v2] σ (some (.int z.1)) z.2 := by
  obtain ⟨hz, h⟩ := chkZ_ok h
  exact AM.bool hz rfl (Nat.le_of_ble_eq_true rfl) (fun X => wfX4_readsDigits_e X v1 v2 σ z h)
-- fX4_kindOf
def fX4_kindOf (v0 : Int32) (σ : Sto) : Option (Int32 × Sto) := if v0 = 99 then (some ((1 : Int32), σ)) else (if v0 = 100 then (some ((-1 : Int32), σ)) else (if v0 = 101 then (some ((-1 : Int32), σ)) else (if v0 = 102 then (some ((3 : Int32), σ)) else (if v0 = 103 then (some ((-1 : Int32), σ)) else (if v0 = 104 then (some ((2 : Int32), σ)) else (if v0 = 105 then (some ((0 : Int32), σ)) else (if v0 = 106 then (some ((-1 : Int32), σ)) else (if v0 = 107 then (some ((-1 : Int32), σ)) else (if v0 = 108 then (some ((-1 : Int32), σ)) else (if v0 = 109 then (some ((-1 : Int32), σ)) else (if v0 = 110 then (some ((5 : Int32), σ)) else (if v0 = 111 then (some ((-1 : Int32), σ)) else (if v0 = 112 then (some ((-1 : Int32), σ)) else (if v0 = 113 then (some ((-1 : Int32), σ)) else (if v0 = 114 then (some ((-1 : Int32), σ)) else (if v0 = 115 then (some ((4 : Int32), σ)) else (some ((-1 : Int32), σ))))))))))))))))))
set_option maxRecDepth 100000 in
set_option maxHeartbeats 4000000 in
theorem wfX4_kindOf (X : Scr) (v0 : Int32) (σ : Sto) (z : Int32 × Sto) (h : fX4_kindOf v0 σ = some z) : Rt X RX4 cX4_kindOf 1 (rmA 0 0) .ireturn 0 [(0, .int v0)] [] σ (some (.int z.1)) z.2 := by
  unfold fX4_kindOf at h
  refine Rt.iload_n 0 dX4_kindOf_0 rfl ?_
  by_cases sw1_0 : v0 = 99
  · replace h := (if_pos sw1_0).symm.trans h
    refine Rt.tsIn 86 dX4_kindOf_1 (by rw [sw1_0] <;> decide) (by rw [sw1_0] <;> decide) (by rw [sw1_0] <;> rfl) (by decide) ?_
    refine Rt.iconst 1 dX4_kindOf_86 (by decide) ?_
    obtain rfl := Option.some.inj h
    exact Rt.ret (v := some (.int (1 : Int32))) dX4_kindOf_87 rfl rfl rfl
  · replace h := (if_neg sw1_0).symm.trans h
    by_cases sw1_1 : v0 = 100
    · replace h := (if_pos sw1_1).symm.trans h
      refine Rt.tsIn 96 dX4_kindOf_1 (by rw [sw1_1] <;> decide) (by rw [sw1_1] <;> decide) (by rw [sw1_1] <;> rfl) (by decide) ?_
      refine Rt.iconst (-1) dX4_kindOf_96 (by decide) ?_
      obtain rfl := Option.some.inj h
      exact Rt.ret (v := some (.int (-1 : Int32))) dX4_kindOf_97 rfl rfl rfl
    · replace h := (if_neg sw1_1).symm.trans h
      by_cases sw1_2 : v0 = 101
      · replace h := (if_pos sw1_2).symm.trans h
        refine Rt.tsIn 96 dX4_kindOf_1 (by rw [sw1_2] <;> decide) (by rw [sw1_2] <;> decide) (by rw [sw1_2] <;> rfl) (by decide) ?_
        refine Rt.iconst (-1) dX4_kindOf_96 (by decide) ?_
        obtain rfl := Option.some.inj h
        exact Rt.ret (v := some (.int (-1 : Int32))) dX4_kindOf_97 rfl rfl rfl
      · replace h := (if_neg sw1_2).symm.trans h
        by_cases sw1_3 : v0 = 102
        · replace h := (if_pos sw1_3).symm.trans h
          refine Rt.tsIn 90 dX4_kindOf_1 (by rw [sw1_3] <;> decide) (by rw [sw1_3] <;> decide) (by rw [sw1_3] <;> rfl) (by decide) ?_
          refine Rt.iconst 3 dX4_kindOf_90 (by decide) ?_
          obtain rfl := Option.some.inj h
          exact Rt.ret (v := some (.int (3 : Int32))) dX4_kindOf_91 rfl rfl rfl
        · replace h := (if_neg sw1_3).symm.trans h
          by_cases sw1_4 : v0 = 103
          · replace h := (if_pos sw1_4).symm.trans h
            refine Rt.tsIn 96 dX4_kindOf_1 (by rw [sw1_4] <;> decide) (by rw [sw1_4] <;> decide) (by rw [sw1_4] <;> rfl) (by decide) ?_
            refine Rt.iconst (-1) dX4_kindOf_96 (by decide) ?_
            obtain rfl := Option.some.inj h
            exact Rt.ret (v := some (.int (-1 : Int32))) dX4_kindOf_97 rfl rfl rfl
          · replace h := (if_neg sw1_4).symm.trans h
            by_cases sw1_5 : v0 = 104
            · replace h := (if_pos sw1_5).symm.trans h
              refine Rt.tsIn 88 dX4_kindOf_1 (by rw [sw1_5] <;> decide) (by rw [sw1_5] <;> decide) (by rw [sw1_5] <;> rfl) (by decide) ?_
              refine Rt.iconst 2 dX4_kindOf_88 (by decide) ?_
              obtain rfl := Option.some.inj h
              exact Rt.ret (v := some (.int (2 : Int32))) dX4_kindOf_89 rfl rfl rfl
            · replace h := (if_neg sw1_5).symm.trans h
              by_cases sw1_6 : v0 = 105
              · replace h := (if_pos sw1_6).symm.trans h
                refine Rt.tsIn 84 dX4_kindOf_1 (by rw [sw1_6] <;> decide) (by rw [sw1_6] <;> decide) (by rw [sw1_6] <;> rfl) (by decide) ?_
                refine Rt.iconst 0 dX4_kindOf_84 (by decide) ?_
                obtain rfl := Option.some.inj h
                exact Rt.ret (v := some (.int (0 : Int32))) dX4_kindOf_85 rfl rfl rfl
              · replace h := (if_neg sw1_6).symm.trans h
                by_cases sw1_7 : v0 = 106
                · replace h := (if_pos sw1_7).symm.trans h
                  refine Rt.tsIn 96 dX4_kindOf_1 (by rw [sw1_7] <;> decide) (by rw [sw1_7] <;> decide) (by rw [sw1_7] <;> rfl) (by decide) ?_
                  refine Rt.iconst (-1) dX4_kindOf_96 (by decide) ?_
                  obtain rfl := Option.some.inj h
                  exact Rt.ret (v := some (.int (-1 : Int32))) dX4_kindOf_97 rfl rfl rfl
                · replace h := (if_neg sw1_7).symm.trans h
                  by_cases sw1_8 : v0 = 107
                  · replace h := (if_pos sw1_8).symm.trans h
                    refine Rt.tsIn 96 dX4_kindOf_1 (by rw [sw1_8] <;> decide) (by rw [sw1_8] <;> decide) (by rw [sw1_8] <;> rfl) (by decide) ?_
                    refine Rt.iconst (-1) dX4_kindOf_96 (by decide) ?_
                    obtain rfl := Option.some.inj h
                    exact Rt.ret (v := some (.int (-1 : Int32))) dX4_kindOf_97 rfl rfl rfl
                  · replace h := (if_neg sw1_8).symm.trans h
                    by_cases sw1_9 : v0 = 108
                    · replace h := (if_pos sw1_9).symm.trans h
                      refine Rt.tsIn 96 dX4_kindOf_1 (by rw [sw1_9] <;> decide) (by rw [sw1_9] <;> decide) (by rw [sw1_9] <;> rfl) (by decide) ?_
                      refine Rt.iconst (-1) dX4_kindOf_96 (by decide) ?_
                      obtain rfl := Option.some.inj h
                      exact Rt.ret (v := some (.int (-1 : Int32))) dX4_kindOf_97 rfl rfl rfl
                    · replace h := (if_neg sw1_9).symm.trans h
                      by_cases sw1_10 : v0 = 109
                      · replace h := (if_pos sw1_10).symm.trans h
                        refine Rt.tsIn 96 dX4_kindOf_1 (by rw [sw1_10] <;> decide) (by rw [sw1_10] <;> decide) (by rw [sw1_10] <;> rfl) (by decide) ?_
                        refine Rt.iconst (-1) dX4_kindOf_96 (by decide) ?_
                        obtain rfl := Option.some.inj h
                        exact Rt.ret (v := some (.int (-1 : Int32))) dX4_kindOf_97 rfl rfl rfl
                      · replace h := (if_neg sw1_10).symm.trans h
                        by_cases sw1_11 : v0 = 110
                        · replace h := (if_pos sw1_11).symm.trans h
                          refine Rt.tsIn 94 dX4_kindOf_1 (by rw [sw1_11] <;> decide) (by rw [sw1_11] <;> decide) (by rw [sw1_11] <;> rfl) (by decide) ?_
                          refine Rt.iconst 5 dX4_kindOf_94 (by decide) ?_
                          obtain rfl := Option.some.inj h
                          exact Rt.ret (v := some (.int (5 : Int32))) dX4_kindOf_95 rfl rfl rfl
                        · replace h := (if_neg sw1_11).symm.trans h
                          by_cases sw1_12 : v0 = 111
                          · replace h := (if_pos sw1_12).symm.trans h
                            refine Rt.tsIn 96 dX4_kindOf_1 (by rw [sw1_12] <;> decide) (by rw [sw1_12] <;> decide) (by rw [sw1_12] <;> rfl) (by decide) ?_
                            refine Rt.iconst (-1) dX4_kindOf_96 (by decide) ?_
                            obtain rfl := Option.some.inj h
                            exact Rt.ret (v := some (.int (-1 : Int32))) dX4_kindOf_97 rfl rfl rfl
                          · replace h := (if_neg sw1_12).symm.trans h
                            by_cases sw1_13 : v0 = 112
                            · replace h := (if_pos sw1_13).symm.trans h
                              refine Rt.tsIn 96 dX4_kindOf_1 (by rw [sw1_13] <;> decide) (by rw [sw1_13] <;> decide) (by rw [sw1_13] <;> rfl) (by decide) ?_
                              refine Rt.iconst (-1) dX4_kindOf_96 (by decide) ?_
                              obtain rfl := Option.some.inj h
                              exact Rt.ret (v := some (.int (-1 : Int32))) dX4_kindOf_97 rfl rfl rfl
                            · replace h := (if_neg sw1_13).symm.trans h
                              by_cases sw1_14 : v0 = 113
                              · replace h := (if_pos sw1_14).symm.trans h
                                refine Rt.tsIn 96 dX4_kindOf_1 (by rw [sw1_14] <;> decide) (by rw [sw1_14] <;> decide) (by rw [sw1_14] <;> rfl) (by decide) ?_
                                refine Rt.iconst (-1) dX4_kindOf_96 (by decide) ?_
                                obtain rfl := Option.some.inj h
                                exact Rt.ret (v := some (.int (-1 : Int32))) dX4_kindOf_97 rfl rfl rfl
                              · replace h := (if_neg sw1_14).symm.trans h
                                by_cases sw1_15 : v0 = 114
                                · replace h := (if_pos sw1_15).symm.trans h
                                  refine Rt.tsIn 96 dX4_kindOf_1 (by rw [sw1_15] <;> decide) (by rw [sw1_15] <;> decide) (by rw [sw1_15] <;> rfl) (by decide) ?_
                                  refine Rt.iconst (-1) dX4_kindOf_96 (by decide) ?_
                                  obtain rfl := Option.some.inj h
                                  exact Rt.ret (v := some (.int (-1 : Int32))) dX4_kindOf_97 rfl rfl rfl
                                · replace h := (if_neg sw1_15).symm.trans h
                                  by_cases sw1_16 : v0 = 115
                                  · replace h := (if_pos sw1_16).symm.trans h
                                    refine Rt.tsIn 92 dX4_kindOf_1 (by rw [sw1_16] <;> decide) (by rw [sw1_16] <;> decide) (by rw [sw1_16] <;> rfl) (by decide) ?_
                                    refine Rt.iconst 4 dX4_kindOf_92 (by decide) ?_
                                    obtain rfl := Option.some.inj h
                                    exact Rt.ret (v := some (.int (4 : Int32))) dX4_kindOf_93 rfl rfl rfl
                                  · replace h := (if_neg sw1_16).symm.trans h
                                    have hsw : (v0).toInt < 99 ∨ 115 < (v0).toInt := by
                                      have w0 := nti 99 (k := 99) rfl sw1_0
                                      have w1 := nti 100 (k := 100) rfl sw1_1
                                      have w2 := nti 101 (k := 101) rfl sw1_2
                                      have w3 := nti 102 (k := 102) rfl sw1_3
                                      have w4 := nti 103 (k := 103) rfl sw1_4
                                      have w5 := nti 104 (k := 104) rfl sw1_5
                                      have w6 := nti 105 (k := 105) rfl sw1_6
                                      have w7 := nti 106 (k := 106) rfl sw1_7
                                      have w8 := nti 107 (k := 107) rfl sw1_8
                                      have w9 := nti 108 (k := 108) rfl sw1_9
                                      have w10 := nti 109 (k := 109) rfl sw1_10
                                      have w11 := nti 110 (k := 110) rfl sw1_11
                                      have w12 := nti 111 (k := 111) rfl sw1_12
                                      have w13 := nti 112 (k := 112) rfl sw1_13
                                      have w14 := nti 113 (k := 113) rfl sw1_14
                                      have w15 := nti 114 (k := 114) rfl sw1_15
                                      have w16 := nti 115 (k := 115) rfl sw1_16
                                      omega
                                    refine Rt.tsOut 96 dX4_kindOf_1 hsw (by decide) ?_
                                    refine Rt.iconst (-1) dX4_kindOf_96 (by decide) ?_
                                    obtain rfl := Option.some.inj h
                                    exact Rt.ret (v := some (.int (-1 : Int32))) dX4_kindOf_97 rfl rfl rfl
set_option maxRecDepth 100000 in
set_option maxHeartbeats 4000000 in
theorem mfX4_kindOf (v0 : Int32) (σ : Sto) (z : Int32 × Sto) (h : fX4_kindOf v0 σ = some z) : AM yX4_kindOf cX4_kindOf 1 (some .int) 0 0 [.int v0] σ (some (.int z.1)) z.2 := AM.int rfl (Nat.le_of_ble_eq_true rfl) (fun X => wfX4_kindOf X v0 σ z h)
-- fX4_readsItch
def fX4_readsItch_b34 (v1 : Int32) (σ : Sto) : Option (Int32 × Sto) := (fX4_readsDigits (v1 + (1 : Int32)) (2 : Int32) σ).bind fun q3 => some (q3.1, q3.2)
set_option maxRecDepth 100000 in
set_option maxHeartbeats 4000000 in
theorem wfX4_readsItch_b34 (X : Scr) (v1 : Int32) (σ : Sto) (z : Int32 × Sto) (h : fX4_readsItch_b34 v1 σ = some z) : Rt X RX4 cX4_readsItch 2 (rmA 2 46) .ireturn 34 [(0, .ref 17), (1, .int v1)] [] σ (some (.int z.1)) z.2 := by
  unfold fX4_readsItch_b34 at h
  refine Rt.aload_n 0 dX4_readsItch_34 rfl ?_
  refine Rt.iload_n 1 dX4_readsItch_35 rfl ?_
  refine Rt.iconst 1 dX4_readsItch_36 (by decide) ?_
  refine Rt.iadd dX4_readsItch_37 ?_
  refine Rt.iconst 2 dX4_readsItch_38 (by decide) ?_
  obtain ⟨q3, e3, h⟩ := bnd h
  refine Rt.cV (mfX4_readsDigits (v1 + (1 : Int32)) (2 : Int32) _ q3 e3) lkX4_78 ly17 rfl rfl rfl ⟨Nat.le_of_ble_eq_true rfl, Nat.le_of_ble_eq_true rfl⟩ (Nat.le_of_ble_eq_true rfl) rfl dX4_readsItch_39 ?_
  obtain rfl := Option.some.inj h
  exact Rt.ret (v := some (.int q3.1)) dX4_readsItch_42 rfl rfl rfl
def fX4_readsItch_b13 (v1 : Int32) (σ : Sto) : Option (Int32 × Sto) := if inb v1 120 = true then (if 0 ≤ (σ 24 (v1).toNatClampNeg) then (fX4_readsItch_b34 v1 (upS σ 17 12 ((σ 17 12) + (1 : Int32)))) else (some ((0 : Int32), σ))) else none
set_option maxRecDepth 100000 in
set_option maxHeartbeats 4000000 in
theorem wfX4_readsItch_b13 (X : Scr) (v1 : Int32) (σ : Sto) (z : Int32 × Sto) (h : fX4_readsItch_b13 v1 σ = some z) : Rt X RX4 cX4_readsItch 2 (rmA 2 46) .ireturn 13 [(0, .ref 17), (1, .int v1)] [] σ (some (.int z.1)) z.2 := by
  unfold fX4_readsItch_b13 at h
  refine Rt.aload_n 0 dX4_readsItch_13 rfl ?_
  refine gfX4_28 ly17 dX4_readsItch_14 ?_
  refine Rt.iload_n 1 dX4_readsItch_17 rfl ?_
  obtain ⟨g2, h⟩ := gd h
  refine Rt.iald ly24 g2 dX4_readsItch_18 ?_
  refine Rt.if_ge 24 dX4_readsItch_19 (by decide) (fun c3 => ?_) (fun c3 => ?_)
  · replace h := (if_pos c3).symm.trans h
    refine Rt.aload_n 0 dX4_readsItch_24 rfl ?_
    refine Rt.dup dX4_readsItch_25 rfl ?_
    refine gfX4_64 ly17 dX4_readsItch_26 ?_
    refine Rt.iconst 1 dX4_readsItch_29 (by decide) ?_
    refine Rt.iadd dX4_readsItch_30 ?_
    refine pfX4_64 ly17 dX4_readsItch_31 ?_
    exact wfX4_readsItch_b34 X v1 _ z h
  · replace h := (if_neg c3).symm.trans h
    refine Rt.iconst 0 dX4_readsItch_22 (by decide) ?_
    obtain rfl := Option.some.inj h
    exact Rt.ret (v := some (.int (0 : Int32))) dX4_readsItch_23 rfl rfl rfl
def fX4_readsItch_e (v1 : Int32) (σ : Sto) : Option (Int32 × Sto) := (fX4_next σ).bind fun q1 => (fX4_kindOf q1.1 q1.2).bind fun q2 => if inb v1 120 = true then (fX4_readsItch_b13 v1 (upS q2.2 24 (v1).toNatClampNeg q2.1)) else none
set_option maxRecDepth 100000 in
set_option maxHeartbeats 4000000 in
theorem wfX4_readsItch_e (X : Scr) (v1 : Int32) (σ : Sto) (z : Int32 × Sto) (h : fX4_readsItch_e v1 σ = some z) : Rt X RX4 cX4_readsItch 2 (rmA 2 46) .ireturn 0 [(0, .ref 17), (1, .int v1)] [] σ (some (.int z.1)) z.2 := by
  unfold fX4_readsItch_e at h
  refine Rt.aload_n 0 dX4_readsItch_0 rfl ?_
  refine gfX4_28 ly17 dX4_readsItch_1 ?_
  refine Rt.iload_n 1 dX4_readsItch_4 rfl ?_
  refine Rt.aload_n 0 dX4_readsItch_5 rfl ?_
  obtain ⟨q1, e1, h⟩ := bnd h
  refine Rt.cV (mfX4_next _ q1 e1) lkX4_67 ly17 rfl rfl rfl ⟨Nat.le_of_ble_eq_true rfl, Nat.le_of_ble_eq_true rfl⟩ (Nat.le_of_ble_eq_true rfl) rfl dX4_readsItch_6 ?_
  obtain ⟨q2, e2, h⟩ := bnd h
  refine Rt.cS (mfX4_kindOf q1.1 _ q2 e2) lkX4_75 rfl ⟨Nat.le_of_ble_eq_true rfl, Nat.le_of_ble_eq_true rfl⟩ (Nat.le_of_ble_eq_true rfl) rfl dX4_readsItch_9 ?_
  obtain ⟨g1, h⟩ := gd h
  refine Rt.iast ly24 g1 dX4_readsItch_12 ?_
  exact wfX4_readsItch_b13 X v1 _ z h
def fX4_readsItch (v1 : Int32) (σ : Sto) : Option (Int32 × Sto) := (fX4_readsItch_e v1 σ).bind chkZ
set_option maxRecDepth 100000 in
set_option maxHeartbeats 4000000 in
theorem mfX4_readsItch (v1 : Int32) (σ : Sto) (z : Int32 × Sto) (h : fX4_readsItch v1 σ = some z) : AM yX4_readsItch cX4_readsItch 2 (some .boolean) 2 46 [.ref 17, .int v1] σ (some (.int z.1)) z.2 := by
  obtain ⟨hz, h⟩ := chkZ_ok h
  exact AM.bool hz rfl (Nat.le_of_ble_eq_true rfl) (fun X => wfX4_readsItch_e X v1 σ z h)
-- fX4_readsAll
def fX4_readsAll_e (v1 : Int32) (v2 : Int32) (σ : Sto) : Option (Int32 × Sto) := if v1 = 104 then ((fX4_readsDigits v2 (1 : Int32) σ).bind fun q1 => if q1.1 = 0 then (some ((0 : Int32), q1.2)) else ((fX4_readsDigits (v2 + (1 : Int32)) (1 : Int32) q1.2).bind fun q2 => if q2.1 = 0 then (some ((0 : Int32), q2.2)) else ((fX4_readsDigits (v2 + (2 : Int32)) (1 : Int32) q2.2).bind fun q3 => if q3.1 = 0 then (some ((0 : Int32), q3.2)) else (some ((1 : Int32), q3.2))))) else (if v1 = 105 then ((fX4_readsItch v2 σ).bind fun q4 => some (q4.1, q4.2)) else (if v1 = 109 then ((fX4_readsDigits v2 (1 : Int32) σ).bind fun q5 => some (q5.1, q5.2)) else (if v1 = 115 then ((fX4_readsDigits v2 (2 : Int32) σ).bind fun q6 => some (q6.1, q6.2)) else ((fX4_readsDigits v2 (2 : Int32) σ).bind fun q7 => if q7.1 = 0 then (some ((0 : Int32), q7.2)) else ((fX4_readsDigits (v2 + (1 : Int32)) (1 : Int32) q7.2).bind fun q8 => if q8.1 = 0 then (some ((0 : Int32), q8.2)) else (some ((1 : Int32), q8.2)))))))
set_option maxRecDepth 100000 in
set_option maxHeartbeats 4000000 in
theorem wfX4_readsAll_e (X : Scr) (v1 : Int32) (v2 : Int32) (σ : Sto) (z : Int32 × Sto) (h : fX4_readsAll_e v1 v2 σ = some z) : Rt X RX4 cX4_readsAll 3 (rmA 3 67) .ireturn 0 [(0, .ref 17), (1, .int v1), (2, .int v2)] [] σ (some (.int z.1)) z.2 := by
  unfold fX4_readsAll_e at h
  refine Rt.iload_n 1 dX4_readsAll_0 rfl ?_
  by_cases sw1_0 : v1 = 104
  · replace h := (if_pos sw1_0).symm.trans h
    refine Rt.lsw 50 dX4_readsAll_1 (by decide) (by rw [sw1_0] <;> rfl) (by decide) ?_
    refine Rt.aload_n 0 dX4_readsAll_50 rfl ?_
    refine Rt.iload_n 2 dX4_readsAll_51 rfl ?_
    refine Rt.iconst 1 dX4_readsAll_52 (by decide) ?_
    obtain ⟨q1, e1, h⟩ := bnd h
    refine Rt.cV (mfX4_readsDigits v2 (1 : Int32) _ q1 e1) lkX4_78 ly17 rfl rfl rfl ⟨Nat.le_of_ble_eq_true rfl, Nat.le_of_ble_eq_true rfl⟩ (Nat.le_of_ble_eq_true rfl) rfl dX4_readsAll_53 ?_
    refine Rt.if_eq 85 dX4_readsAll_56 (by decide) (fun c2 => ?_) (fun c2 => ?_)
    · replace h := (if_pos c2).symm.trans h
      refine Rt.iconst 0 dX4_readsAll_85 (by decide) ?_
      obtain rfl := Option.some.inj h
      exact Rt.ret (v := some (.int (0 : Int32))) dX4_readsAll_86 rfl rfl rfl
    · replace h := (if_neg c2).symm.trans h
      refine Rt.aload_n 0 dX4_readsAll_59 rfl ?_
      refine Rt.iload_n 2 dX4_readsAll_60 rfl ?_
      refine Rt.iconst 1 dX4_readsAll_61 (by decide) ?_
      refine Rt.iadd dX4_readsAll_62 ?_
      refine Rt.iconst 1 dX4_readsAll_63 (by decide) ?_
      obtain ⟨q2, e2, h⟩ := bnd h
      refine Rt.cV (mfX4_readsDigits (v2 + (1 : Int32)) (1 : Int32) _ q2 e2) lkX4_78 ly17 rfl rfl rfl ⟨Nat.le_of_ble_eq_true rfl, Nat.le_of_ble_eq_true rfl⟩ (Nat.le_of_ble_eq_true rfl) rfl dX4_readsAll_64 ?_
      refine Rt.if_eq 85 dX4_readsAll_67 (by decide) (fun c3 => ?_) (fun c3 => ?_)
      · replace h := (if_pos c3).symm.trans h
        refine Rt.iconst 0 dX4_readsAll_85 (by decide) ?_
        obtain rfl := Option.some.inj h
        exact Rt.ret (v := some (.int (0 : Int32))) dX4_readsAll_86 rfl rfl rfl
      · replace h := (if_neg c3).symm.trans h
        refine Rt.aload_n 0 dX4_readsAll_70 rfl ?_
        refine Rt.iload_n 2 dX4_readsAll_71 rfl ?_
        refine Rt.iconst 2 dX4_readsAll_72 (by decide) ?_
        refine Rt.iadd dX4_readsAll_73 ?_
        refine Rt.iconst 1 dX4_readsAll_74 (by decide) ?_
        obtain ⟨q3, e3, h⟩ := bnd h
        refine Rt.cV (mfX4_readsDigits (v2 + (2 : Int32)) (1 : Int32) _ q3 e3) lkX4_78 ly17 rfl rfl rfl ⟨Nat.le_of_ble_eq_true rfl, Nat.le_of_ble_eq_true rfl⟩ (Nat.le_of_ble_eq_true rfl) rfl dX4_readsAll_75 ?_
        refine Rt.if_eq 85 dX4_readsAll_78 (by decide) (fun c4 => ?_) (fun c4 => ?_)
        · replace h := (if_pos c4).symm.trans h
          refine Rt.iconst 0 dX4_readsAll_85 (by decide) ?_
          obtain rfl := Option.some.inj h
          exact Rt.ret (v := some (.int (0 : Int32))) dX4_readsAll_86 rfl rfl rfl
        · replace h := (if_neg c4).symm.trans h
          refine Rt.iconst 1 dX4_readsAll_81 (by decide) ?_
          refine Rt.goto 86 dX4_readsAll_82 (by decide) ?_
          obtain rfl := Option.some.inj h
          exact Rt.ret (v := some (.int (1 : Int32))) dX4_readsAll_86 rfl rfl rfl
  · replace h := (if_neg sw1_0).symm.trans h
    by_cases sw1_1 : v1 = 105
    · replace h := (if_pos sw1_1).symm.trans h
      refine Rt.lsw 44 dX4_readsAll_1 (by decide) (by rw [sw1_1] <;> rfl) (by decide) ?_
      refine Rt.aload_n 0 dX4_readsAll_44 rfl ?_
      refine Rt.iload_n 2 dX4_readsAll_45 rfl ?_
      obtain ⟨q4, e4, h⟩ := bnd h
      refine Rt.cV (mfX4_readsItch v2 _ q4 e4) lkX4_82 ly17 rfl rfl rfl ⟨Nat.le_of_ble_eq_true rfl, Nat.le_of_ble_eq_true rfl⟩ (Nat.le_of_ble_eq_true rfl) rfl dX4_readsAll_46 ?_
      obtain rfl := Option.some.inj h
      exact Rt.ret (v := some (.int q4.1)) dX4_readsAll_49 rfl rfl rfl
    · replace h := (if_neg sw1_1).symm.trans h
      by_cases sw1_2 : v1 = 109
      · replace h := (if_pos sw1_2).symm.trans h
        refine Rt.lsw 87 dX4_readsAll_1 (by decide) (by rw [sw1_2] <;> rfl) (by decide) ?_
        refine Rt.aload_n 0 dX4_readsAll_87 rfl ?_
        refine Rt.iload_n 2 dX4_readsAll_88 rfl ?_
        refine Rt.iconst 1 dX4_readsAll_89 (by decide) ?_
        obtain ⟨q5, e5, h⟩ := bnd h
        refine Rt.cV (mfX4_readsDigits v2 (1 : Int32) _ q5 e5) lkX4_78 ly17 rfl rfl rfl ⟨Nat.le_of_ble_eq_true rfl, Nat.le_of_ble_eq_true rfl⟩ (Nat.le_of_ble_eq_true rfl) rfl dX4_readsAll_90 ?_
        obtain rfl := Option.some.inj h
        exact Rt.ret (v := some (.int q5.1)) dX4_readsAll_93 rfl rfl rfl
      · replace h := (if_neg sw1_2).symm.trans h
        by_cases sw1_3 : v1 = 115
        · replace h := (if_pos sw1_3).symm.trans h
          refine Rt.lsw 94 dX4_readsAll_1 (by decide) (by rw [sw1_3] <;> rfl) (by decide) ?_
          refine Rt.aload_n 0 dX4_readsAll_94 rfl ?_
          refine Rt.iload_n 2 dX4_readsAll_95 rfl ?_
          refine Rt.iconst 2 dX4_readsAll_96 (by decide) ?_
          obtain ⟨q6, e6, h⟩ := bnd h
          refine Rt.cV (mfX4_readsDigits v2 (2 : Int32) _ q6 e6) lkX4_78 ly17 rfl rfl rfl ⟨Nat.le_of_ble_eq_true rfl, Nat.le_of_ble_eq_true rfl⟩ (Nat.le_of_ble_eq_true rfl) rfl dX4_readsAll_97 ?_
          obtain rfl := Option.some.inj h
          exact Rt.ret (v := some (.int q6.1)) dX4_readsAll_100 rfl rfl rfl
        · replace h := (if_neg sw1_3).symm.trans h
          have w0 := nti 104 (k := 104) rfl sw1_0
          have w1 := nti 105 (k := 105) rfl sw1_1
          have w2 := nti 109 (k := 109) rfl sw1_2
          have w3 := nti 115 (k := 115) rfl sw1_3
          refine Rt.lswOut 101 dX4_readsAll_1 (by decide) (fun q hq => by simp at hq; rcases hq with e | e | e | e <;> subst e <;> first | exact Ne.symm w0 | exact Ne.symm w1 | exact Ne.symm w2 | exact Ne.symm w3) (by decide) ?_
          refine Rt.aload_n 0 dX4_readsAll_101 rfl ?_
          refine Rt.iload_n 2 dX4_readsAll_102 rfl ?_
          refine Rt.iconst 2 dX4_readsAll_103 (by decide) ?_
          obtain ⟨q7, e7, h⟩ := bnd h
          refine Rt.cV (mfX4_readsDigits v2 (2 : Int32) _ q7 e7) lkX4_78 ly17 rfl rfl rfl ⟨Nat.le_of_ble_eq_true rfl, Nat.le_of_ble_eq_true rfl⟩ (Nat.le_of_ble_eq_true rfl) rfl dX4_readsAll_104 ?_
          refine Rt.if_eq 125 dX4_readsAll_107 (by decide) (fun c5 => ?_) (fun c5 => ?_)
          · replace h := (if_pos c5).symm.trans h
            refine Rt.iconst 0 dX4_readsAll_125 (by decide) ?_
            obtain rfl := Option.some.inj h
            exact Rt.ret (v := some (.int (0 : Int32))) dX4_readsAll_126 rfl rfl rfl
          · replace h := (if_neg c5).symm.trans h
            refine Rt.aload_n 0 dX4_readsAll_110 rfl ?_
            refine Rt.iload_n 2 dX4_readsAll_111 rfl ?_
            refine Rt.iconst 1 dX4_readsAll_112 (by decide) ?_
            refine Rt.iadd dX4_readsAll_113 ?_
            refine Rt.iconst 1 dX4_readsAll_114 (by decide) ?_
            obtain ⟨q8, e8, h⟩ := bnd h
            refine Rt.cV (mfX4_readsDigits (v2 + (1 : Int32)) (1 : Int32) _ q8 e8) lkX4_78 ly17 rfl rfl rfl ⟨Nat.le_of_ble_eq_true rfl, Nat.le_of_ble_eq_true rfl⟩ (Nat.le_of_ble_eq_true rfl) rfl dX4_readsAll_115 ?_
            refine Rt.if_eq 125 dX4_readsAll_118 (by decide) (fun c6 => ?_) (fun c6 => ?_)
            · replace h := (if_pos c6).symm.trans h
              refine Rt.iconst 0 dX4_readsAll_125 (by decide) ?_
              obtain rfl := Option.some.inj h
              exact Rt.ret (v := some (.int (0 : Int32))) dX4_readsAll_126 rfl rfl rfl
            · replace h := (if_neg c6).symm.trans h
              refine Rt.iconst 1 dX4_readsAll_121 (by decide) ?_
              refine Rt.goto 126 dX4_readsAll_122 (by decide) ?_
              obtain rfl := Option.some.inj h
              exact Rt.ret (v := some (.int (1 : Int32))) dX4_readsAll_126 rfl rfl rfl
def fX4_readsAll (v1 : Int32) (v2 : Int32) (σ : Sto) : Option (Int32 × Sto) := (fX4_readsAll_e v1 v2 σ).bind chkZ
set_option maxRecDepth 100000 in
set_option maxHeartbeats 4000000 in
theorem mfX4_readsAll (v1 : Int32) (v2 : Int32) (σ : Sto) (z : Int32 × Sto) (h : fX4_readsAll v1 v2 σ = some z) : AM yX4_readsAll cX4_readsAll 3 (some .boolean) 3 67 [.ref 17, .int v1, .int v2] σ (some (.int z.1)) z.2 := by
  obtain ⟨hz, h⟩ := chkZ_ok h
  exact AM.bool hz rfl (Nat.le_of_ble_eq_true rfl) (fun X => wfX4_readsAll_e X v1 v2 σ z h)
-- fX4_statement
def fX4_statement_b70 (v1 : Int32) (σ : Sto) : Option (Int32 × Sto) := (fX4_readsAll v1 ((3 : Int32) * (σ 17 13)) σ).bind fun q2 => if q2.1 = 0 then (some ((0 : Int32), q2.2)) else ((fX4_next q2.2).bind fun q3 => if q3.1 = (59 : Int32) then (some ((1 : Int32), (upS q3.2 17 12 ((q3.2 17 12) + (1 : Int32))))) else (some ((0 : Int32), q3.2)))
set_option maxRecDepth 100000 in
set_option maxHeartbeats 4000000 in
theorem wfX4_statement_b70 (X : Scr) (v1 : Int32) (σ : Sto) (z : Int32 × Sto) (h : fX4_statement_b70 v1 σ = some z) : Rt X RX4 cX4_statement 2 (rmA 4 89) .ireturn 70 [(0, .ref 17), (1, .int v1)] [] σ (some (.int z.1)) z.2 := by
  unfold fX4_statement_b70 at h
  refine Rt.aload_n 0 dX4_statement_70 rfl ?_
  refine Rt.iload_n 1 dX4_statement_71 rfl ?_
  refine Rt.iconst 3 dX4_statement_72 (by decide) ?_
  refine Rt.aload_n 0 dX4_statement_73 rfl ?_
  refine gfX4_86 ly17 dX4_statement_74 ?_
  refine Rt.imul dX4_statement_77 ?_
  obtain ⟨q2, e2, h⟩ := bnd h
  refine Rt.cV (mfX4_readsAll v1 ((3 : Int32) * (σ 17 13)) _ q2 e2) lkX4_89 ly17 rfl rfl rfl ⟨Nat.le_of_ble_eq_true rfl, Nat.le_of_ble_eq_true rfl⟩ (Nat.le_of_ble_eq_true rfl) rfl dX4_statement_78 ?_
  refine Rt.if_eq 93 dX4_statement_81 (by decide) (fun c4 => ?_) (fun c4 => ?_)
  · replace h := (if_pos c4).symm.trans h
    refine Rt.iconst 0 dX4_statement_93 (by decide) ?_
    obtain rfl := Option.some.inj h
    exact Rt.ret (v := some (.int (0 : Int32))) dX4_statement_94 rfl rfl rfl
  · replace h := (if_neg c4).symm.trans h
    refine Rt.aload_n 0 dX4_statement_84 rfl ?_
    obtain ⟨q3, e3, h⟩ := bnd h
    refine Rt.cV (mfX4_next _ q3 e3) lkX4_67 ly17 rfl rfl rfl ⟨Nat.le_of_ble_eq_true rfl, Nat.le_of_ble_eq_true rfl⟩ (Nat.le_of_ble_eq_true rfl) rfl dX4_statement_85 ?_
    refine Rt.bipush 59 dX4_statement_88 (by decide) ?_
    refine Rt.icmp_eq 95 dX4_statement_90 (by decide) (fun c5 => ?_) (fun c5 => ?_)
    · replace h := (if_pos c5).symm.trans h
      refine Rt.aload_n 0 dX4_statement_95 rfl ?_
      refine Rt.dup dX4_statement_96 rfl ?_
      refine gfX4_64 ly17 dX4_statement_97 ?_
      refine Rt.iconst 1 dX4_statement_100 (by decide) ?_
      refine Rt.iadd dX4_statement_101 ?_
      refine pfX4_64 ly17 dX4_statement_102 ?_
      refine Rt.iconst 1 dX4_statement_105 (by decide) ?_
      obtain rfl := Option.some.inj h
      exact Rt.ret (v := some (.int (1 : Int32))) dX4_statement_106 rfl rfl rfl
    · replace h := (if_neg c5).symm.trans h
      refine Rt.iconst 0 dX4_statement_93 (by decide) ?_
      obtain rfl := Option.some.inj h
      exact Rt.ret (v := some (.int (0 : Int32))) dX4_statement_94 rfl rfl rfl
def fX4_statement_b37 (v1 : Int32) (σ : Sto) : Option (Int32 × Sto) := if inb (σ 17 13) 40 = true then (if inb ((upS σ 22 ((σ 17 13)).toNatClampNeg v1) 17 13) 40 = true then (fX4_statement_b70 v1 (upS (upS (upS σ 22 ((σ 17 13)).toNatClampNeg v1) 23 (((upS σ 22 ((σ 17 13)).toNatClampNeg v1) 17 13)).toNatClampNeg ((upS σ 22 ((σ 17 13)).toNatClampNeg v1) 17 12)) 17 12 (((upS (upS σ 22 ((σ 17 13)).toNatClampNeg v1) 23 (((upS σ 22 ((σ 17 13)).toNatClampNeg v1) 17 13)).toNatClampNeg ((upS σ 22 ((σ 17 13)).toNatClampNeg v1) 17 12)) 17 12) + (1 : Int32)))) else none) else none
set_option maxRecDepth 100000 in
set_option maxHeartbeats 4000000 in
theorem wfX4_statement_b37 (X : Scr) (v1 : Int32) (σ : Sto) (z : Int32 × Sto) (h : fX4_statement_b37 v1 σ = some z) : Rt X RX4 cX4_statement 2 (rmA 4 89) .ireturn 37 [(0, .ref 17), (1, .int v1)] [] σ (some (.int z.1)) z.2 := by
  unfold fX4_statement_b37 at h
  refine Rt.aload_n 0 dX4_statement_37 rfl ?_
  refine gfX4_22 ly17 dX4_statement_38 ?_
  refine Rt.aload_n 0 dX4_statement_41 rfl ?_
  refine gfX4_86 ly17 dX4_statement_42 ?_
  refine Rt.iload_n 1 dX4_statement_45 rfl ?_
  obtain ⟨g2, h⟩ := gd h
  refine Rt.iast ly22 g2 dX4_statement_46 ?_
  refine Rt.aload_n 0 dX4_statement_47 rfl ?_
  refine gfX4_25 ly17 dX4_statement_48 ?_
  refine Rt.aload_n 0 dX4_statement_51 rfl ?_
  refine gfX4_86 ly17 dX4_statement_52 ?_
  refine Rt.aload_n 0 dX4_statement_55 rfl ?_
  refine gfX4_64 ly17 dX4_statement_56 ?_
  obtain ⟨g3, h⟩ := gd h
  refine Rt.iast ly23 g3 dX4_statement_59 ?_
  refine Rt.aload_n 0 dX4_statement_60 rfl ?_
  refine Rt.dup dX4_statement_61 rfl ?_
  refine gfX4_64 ly17 dX4_statement_62 ?_
  refine Rt.iconst 1 dX4_statement_65 (by decide) ?_
  refine Rt.iadd dX4_statement_66 ?_
  refine pfX4_64 ly17 dX4_statement_67 ?_
  exact wfX4_statement_b70 X v1 _ z h
def fX4_statement_e (σ : Sto) : Option (Int32 × Sto) := (fX4_next σ).bind fun q1 => if q1.1 = (105 : Int32) then (fX4_statement_b37 q1.1 q1.2) else (if q1.1 = (104 : Int32) then (fX4_statement_b37 q1.1 q1.2) else (if q1.1 = (109 : Int32) then (fX4_statement_b37 q1.1 q1.2) else (if q1.1 = (115 : Int32) then (fX4_statement_b37 q1.1 q1.2) else (if q1.1 = (111 : Int32) then (fX4_statement_b37 q1.1 q1.2) else (some ((0 : Int32), q1.2))))))
set_option maxRecDepth 100000 in
set_option maxHeartbeats 4000000 in
theorem wfX4_statement_e (X : Scr) (σ : Sto) (z : Int32 × Sto) (h : fX4_statement_e σ = some z) : Rt X RX4 cX4_statement 2 (rmA 4 89) .ireturn 0 [(0, .ref 17)] [] σ (some (.int z.1)) z.2 := by
  unfold fX4_statement_e at h
  refine Rt.aload_n 0 dX4_statement_0 rfl ?_
  obtain ⟨q1, e1, h⟩ := bnd h
  refine Rt.cV (mfX4_next _ q1 e1) lkX4_67 ly17 rfl rfl rfl ⟨Nat.le_of_ble_eq_true rfl, Nat.le_of_ble_eq_true rfl⟩ (Nat.le_of_ble_eq_true rfl) rfl dX4_statement_1 ?_
  refine Rt.istore_n [(1, _), (0, _)] dX4_statement_4 (by decide) rfl ?_
  refine Rt.iload_n 0 dX4_statement_5 rfl ?_
  refine Rt.bipush 105 dX4_statement_6 (by decide) ?_
  refine Rt.icmp_eq 37 dX4_statement_8 (by decide) (fun c1 => ?_) (fun c1 => ?_)
  · replace h := (if_pos c1).symm.trans h
    refine Rt.pick [1, 0] rfl ?_
    exact wfX4_statement_b37 X q1.1 _ z h
  · replace h := (if_neg c1).symm.trans h
    refine Rt.iload_n 0 dX4_statement_11 rfl ?_
    refine Rt.bipush 104 dX4_statement_12 (by decide) ?_
    refine Rt.icmp_eq 37 dX4_statement_14 (by decide) (fun c6 => ?_) (fun c6 => ?_)
    · replace h := (if_pos c6).symm.trans h
      refine Rt.pick [1, 0] rfl ?_
      exact wfX4_statement_b37 X q1.1 _ z h
    · replace h := (if_neg c6).symm.trans h
      refine Rt.iload_n 0 dX4_statement_17 rfl ?_
      refine Rt.bipush 109 dX4_statement_18 (by decide) ?_
      refine Rt.icmp_eq 37 dX4_statement_20 (by decide) (fun c7 => ?_) (fun c7 => ?_)
      · replace h := (if_pos c7).symm.trans h
        refine Rt.pick [1, 0] rfl ?_
        exact wfX4_statement_b37 X q1.1 _ z h
      · replace h := (if_neg c7).symm.trans h
        refine Rt.iload_n 0 dX4_statement_23 rfl ?_
        refine Rt.bipush 115 dX4_statement_24 (by decide) ?_
        refine Rt.icmp_eq 37 dX4_statement_26 (by decide) (fun c8 => ?_) (fun c8 => ?_)
        · replace h := (if_pos c8).symm.trans h
          refine Rt.pick [1, 0] rfl ?_
          exact wfX4_statement_b37 X q1.1 _ z h
        · replace h := (if_neg c8).symm.trans h
          refine Rt.iload_n 0 dX4_statement_29 rfl ?_
          refine Rt.bipush 111 dX4_statement_30 (by decide) ?_
          refine Rt.icmp_eq 37 dX4_statement_32 (by decide) (fun c9 => ?_) (fun c9 => ?_)
          · replace h := (if_pos c9).symm.trans h
            refine Rt.pick [1, 0] rfl ?_
            exact wfX4_statement_b37 X q1.1 _ z h
          · replace h := (if_neg c9).symm.trans h
            refine Rt.iconst 0 dX4_statement_35 (by decide) ?_
            obtain rfl := Option.some.inj h
            exact Rt.ret (v := some (.int (0 : Int32))) dX4_statement_36 rfl rfl rfl
def fX4_statement (σ : Sto) : Option (Int32 × Sto) := (fX4_statement_e σ).bind chkZ
set_option maxRecDepth 100000 in
set_option maxHeartbeats 4000000 in
theorem mfX4_statement (σ : Sto) (z : Int32 × Sto) (h : fX4_statement σ = some z) : AM yX4_statement cX4_statement 2 (some .boolean) 4 89 [.ref 17] σ (some (.int z.1)) z.2 := by
  obtain ⟨hz, h⟩ := chkZ_ok h
  exact AM.bool hz rfl (Nat.le_of_ble_eq_true rfl) (fun X => wfX4_statement_e X σ z h)
-- fX4_back
def fX4_back_l86 : Nat → Int32 → Sto → Option (Int32 × Sto)
  | 0, _, _ => none
  | n + 1, v2, σ => if (σ 17 13) ≤ v2 then (some ((σ 17 13), σ)) else ((fX4_comes v2 σ).bind fun q2 => if q2.1 = 0 then ((fX4_passesAll (1 : Int32) (0 : Int32) q2.2).bind fun q3 => if inb v2 40 = true then (some (((-2000 : Int32) - (q3.2 23 (v2).toNatClampNeg)), q3.2)) else none) else (fX4_back_l86 n (v2 + (1 : Int32)) q2.2))
set_option maxRecDepth 100000 in
set_option maxHeartbeats 4000000 in
theorem wfX4_back_l86 (X : Scr) : ∀ (n : Nat) (v2 : Int32) (σ : Sto) (z : Int32 × Sto), fX4_back_l86 n v2 σ = some z → Rt X RX4 cX4_back 3 (rmA 7 148) .ireturn 86 [(0, .ref 17), (2, .int v2)] [] σ (some (.int z.1)) z.2 := by
  intro n
  induction n with
  | zero =>
    intro v2 σ z h
    rw [fX4_back_l86] at h
    cases h
  | succ n ih =>
    intro v2 σ z h
    rw [fX4_back_l86] at h
    refine Rt.iload_n 1 dX4_back_86 rfl ?_
    refine Rt.aload_n 0 dX4_back_87 rfl ?_
    refine gfX4_86 ly17 dX4_back_88 ?_
    refine Rt.icmp_ge 128 dX4_back_91 (by decide) (fun c3 => ?_) (fun c3 => ?_)
    · replace h := (if_pos c3).symm.trans h
      refine Rt.aload_n 0 dX4_back_128 rfl ?_
      refine gfX4_86 ly17 dX4_back_129 ?_
      obtain rfl := Option.some.inj h
      exact Rt.ret (v := some (.int (σ 17 13))) dX4_back_132 rfl rfl rfl
    · replace h := (if_neg c3).symm.trans h
      refine Rt.aload_n 0 dX4_back_94 rfl ?_
      refine Rt.iload_n 1 dX4_back_95 rfl ?_
      obtain ⟨q2, e2, h⟩ := bnd h
      refine Rt.cV (mfX4_comes v2 _ q2 e2) lkX4_125 ly17 rfl rfl rfl ⟨Nat.le_of_ble_eq_true rfl, Nat.le_of_ble_eq_true rfl⟩ (Nat.le_of_ble_eq_true rfl) rfl dX4_back_96 ?_
      refine Rt.if_eq 105 dX4_back_99 (by decide) (fun c4 => ?_) (fun c4 => ?_)
      · replace h := (if_pos c4).symm.trans h
        refine Rt.aload_n 0 dX4_back_105 rfl ?_
        refine Rt.iconst 1 dX4_back_106 (by decide) ?_
        refine Rt.iconst 0 dX4_back_107 (by decide) ?_
        obtain ⟨q3, e3, h⟩ := bnd h
        refine Rt.cV0 (mfX4_passesAll (1 : Int32) (0 : Int32) _ q3 e3) lkX4_121 ly17 rfl rfl rfl ⟨Nat.le_of_ble_eq_true rfl, Nat.le_of_ble_eq_true rfl⟩ (Nat.le_of_ble_eq_true rfl) rfl dX4_back_108 ?_
        refine Rt.sipush (-2000) dX4_back_111 (by decide) ?_
        refine Rt.aload_n 0 dX4_back_114 rfl ?_
        refine gfX4_25 ly17 dX4_back_115 ?_
        refine Rt.iload_n 1 dX4_back_118 rfl ?_
        obtain ⟨g5, h⟩ := gd h
        refine Rt.iald ly23 g5 dX4_back_119 ?_
        refine Rt.isub dX4_back_120 ?_
        obtain rfl := Option.some.inj h
        exact Rt.ret (v := some (.int ((-2000 : Int32) - (q3.2 23 (v2).toNatClampNeg)))) dX4_back_121 rfl rfl rfl
      · replace h := (if_neg c4).symm.trans h
        refine Rt.goto 122 dX4_back_102 (by decide) ?_
        refine Rt.iinc [(2, _), (0, _)] (v2 + (1 : Int32)) 1 dX4_back_122 rfl rfl (by decide) rfl ?_
        refine Rt.goto 86 dX4_back_125 (by decide) ?_
        refine Rt.pick [1, 0] rfl ?_
        exact ih (v2 + (1 : Int32)) _ z h
def fX4_back_b65 (v1 : Int32) (σ : Sto) : Option (Int32 × Sto) := if v1 = 0 then (some (((-1000 : Int32) - (σ 17 12)), σ)) else ((fX4_passesAll (1 : Int32) (1 : Int32) σ).bind fun q1 => fX4_back_l86 300 (0 : Int32) q1.2)
set_option maxRecDepth 100000 in
set_option maxHeartbeats 4000000 in
theorem wfX4_back_b65 (X : Scr) (v1 : Int32) (σ : Sto) (z : Int32 × Sto) (h : fX4_back_b65 v1 σ = some z) : Rt X RX4 cX4_back 3 (rmA 7 148) .ireturn 65 [(0, .ref 17), (1, .int v1)] [] σ (some (.int z.1)) z.2 := by
  unfold fX4_back_b65 at h
  refine Rt.iload_n 1 dX4_back_65 rfl ?_
  refine Rt.if_ne 78 dX4_back_66 (by decide) (fun c2 => ?_) (fun c2 => ?_)
  · replace h := (if_neg c2).symm.trans h
    refine Rt.aload_n 0 dX4_back_78 rfl ?_
    refine Rt.iconst 1 dX4_back_79 (by decide) ?_
    refine Rt.iconst 1 dX4_back_80 (by decide) ?_
    obtain ⟨q1, e1, h⟩ := bnd h
    refine Rt.cV0 (mfX4_passesAll (1 : Int32) (1 : Int32) _ q1 e1) lkX4_121 ly17 rfl rfl rfl ⟨Nat.le_of_ble_eq_true rfl, Nat.le_of_ble_eq_true rfl⟩ (Nat.le_of_ble_eq_true rfl) rfl dX4_back_81 ?_
    refine Rt.iconst 0 dX4_back_84 (by decide) ?_
    refine Rt.istore_n [(2, _), (0, _), (1, _)] dX4_back_85 (by decide) rfl ?_
    refine Rt.pick [1, 0] rfl ?_
    exact wfX4_back_l86 X 300 (0 : Int32) _ z h
  · replace h := (if_pos c2).symm.trans h
    refine Rt.sipush (-1000) dX4_back_69 (by decide) ?_
    refine Rt.aload_n 0 dX4_back_72 rfl ?_
    refine gfX4_64 ly17 dX4_back_73 ?_
    refine Rt.isub dX4_back_76 ?_
    obtain rfl := Option.some.inj h
    exact Rt.ret (v := some (.int ((-1000 : Int32) - (σ 17 12)))) dX4_back_77 rfl rfl rfl
def fX4_back_b60 (v1 : Int32) (σ : Sto) : Option (Int32 × Sto) := fX4_back_b65 v1 (upS σ 17 11 (0 : Int32))
set_option maxRecDepth 100000 in
set_option maxHeartbeats 4000000 in
theorem wfX4_back_b60 (X : Scr) (v1 : Int32) (σ : Sto) (z : Int32 × Sto) (h : fX4_back_b60 v1 σ = some z) : Rt X RX4 cX4_back 3 (rmA 7 148) .ireturn 60 [(0, .ref 17), (1, .int v1)] [] σ (some (.int z.1)) z.2 := by
  unfold fX4_back_b60 at h
  refine Rt.aload_n 0 dX4_back_60 rfl ?_
  refine Rt.iconst 0 dX4_back_61 (by decide) ?_
  refine pfX4_56 ly17 dX4_back_62 ?_
  exact wfX4_back_b65 X v1 _ z h
def fX4_back_b53 (k12 : Int32 → Sto → Option (Int32 × Sto)) (v1 : Int32) (s0 : Int32) (s1 : Int32) (σ : Sto) : Option (Int32 × Sto) := k12 v1 (upS σ 17 13 (s1 + s0))
set_option maxRecDepth 100000 in
set_option maxHeartbeats 4000000 in
theorem wfX4_back_b53 (X : Scr) (k12 : Int32 → Sto → Option (Int32 × Sto)) (hk12 : ∀ (v1 : Int32) (σ : Sto) (z : Int32 × Sto), k12 v1 σ = some z → Rt X RX4 cX4_back 3 (rmA 7 148) .ireturn 12 [(0, .ref 17), (1, .int v1)] [] σ (some (.int z.1)) z.2) (v1 : Int32) (s0 : Int32) (s1 : Int32) (σ : Sto) (z : Int32 × Sto) (h : fX4_back_b53 k12 v1 s0 s1 σ = some z) : Rt X RX4 cX4_back 3 (rmA 7 148) .ireturn 53 [(0, .ref 17), (1, .int v1)] [.int s0, .int s1, .ref 17] σ (some (.int z.1)) z.2 := by
  unfold fX4_back_b53 at h
  refine Rt.iadd dX4_back_53 ?_
  refine pfX4_86 ly17 dX4_back_54 ?_
  refine Rt.goto 12 dX4_back_57 (by decide) ?_
  exact hk12 v1 _ z h
def fX4_back_b34 (k12 : Int32 → Sto → Option (Int32 × Sto)) (σ : Sto) : Option (Int32 × Sto) := (fX4_statement σ).bind fun q4 => if q4.1 = 0 then (fX4_back_b53 k12 q4.1 (0 : Int32) (q4.2 17 13) q4.2) else (fX4_back_b53 k12 q4.1 (1 : Int32) (q4.2 17 13) q4.2)
set_option maxRecDepth 100000 in
set_option maxHeartbeats 4000000 in
theorem wfX4_back_b34 (X : Scr) (k12 : Int32 → Sto → Option (Int32 × Sto)) (hk12 : ∀ (v1 : Int32) (σ : Sto) (z : Int32 × Sto), k12 v1 σ = some z → Rt X RX4 cX4_back 3 (rmA 7 148) .ireturn 12 [(0, .ref 17), (1, .int v1)] [] σ (some (.int z.1)) z.2) (σ : Sto) (z : Int32 × Sto) (h : fX4_back_b34 k12 σ = some z) : Rt X RX4 cX4_back 3 (rmA 7 148) .ireturn 34 [(0, .ref 17)] [] σ (some (.int z.1)) z.2 := by
  unfold fX4_back_b34 at h
  refine Rt.aload_n 0 dX4_back_34 rfl ?_
  obtain ⟨q4, e4, h⟩ := bnd h
  refine Rt.cV (mfX4_statement _ q4 e4) lkX4_117 ly17 rfl rfl rfl ⟨Nat.le_of_ble_eq_true rfl, Nat.le_of_ble_eq_true rfl⟩ (Nat.le_of_ble_eq_true rfl) rfl dX4_back_35 ?_
  refine Rt.istore_n [(1, _), (0, _)] dX4_back_38 (by decide) rfl ?_
  refine Rt.aload_n 1 dX4_back_39 rfl ?_
  refine Rt.dup dX4_back_40 rfl ?_
  refine gfX4_86 ly17 dX4_back_41 ?_
  refine Rt.iload_n 0 dX4_back_44 rfl ?_
  refine Rt.if_eq 52 dX4_back_45 (by decide) (fun c7 => ?_) (fun c7 => ?_)
  · replace h := (if_pos c7).symm.trans h
    refine Rt.iconst 0 dX4_back_52 (by decide) ?_
    refine Rt.pick [1, 0] rfl ?_
    exact wfX4_back_b53 X k12 hk12 q4.1 (0 : Int32) (q4.2 17 13) _ z h
  · replace h := (if_neg c7).symm.trans h
    refine Rt.iconst 1 dX4_back_48 (by decide) ?_
    refine Rt.goto 53 dX4_back_49 (by decide) ?_
    refine Rt.pick [1, 0] rfl ?_
    exact wfX4_back_b53 X k12 hk12 q4.1 (1 : Int32) (q4.2 17 13) _ z h
def fX4_back_l12 : Nat → Int32 → Sto → Option (Int32 × Sto)
  | 0, _, _ => none
  | n + 1, v1, σ => if v1 = 0 then (fX4_back_b60 v1 σ) else (if (σ 17 12) < (σ 17 11) then (fX4_back_b34 (fun a0 s => fX4_back_l12 n a0 s) σ) else (if (σ 17 13) = 0 then (fX4_back_b34 (fun a0 s => fX4_back_l12 n a0 s) σ) else (fX4_back_b60 v1 σ)))
set_option maxRecDepth 100000 in
set_option maxHeartbeats 4000000 in
theorem wfX4_back_l12 (X : Scr) : ∀ (n : Nat) (v1 : Int32) (σ : Sto) (z : Int32 × Sto), fX4_back_l12 n v1 σ = some z → Rt X RX4 cX4_back 3 (rmA 7 148) .ireturn 12 [(0, .ref 17), (1, .int v1)] [] σ (some (.int z.1)) z.2 := by
  intro n
  induction n with
  | zero =>
    intro v1 σ z h
    rw [fX4_back_l12] at h
    cases h
  | succ n ih =>
    intro v1 σ z h
    rw [fX4_back_l12] at h
    refine Rt.iload_n 1 dX4_back_12 rfl ?_
    refine Rt.if_eq 60 dX4_back_13 (by decide) (fun c1 => ?_) (fun c1 => ?_)
    · replace h := (if_pos c1).symm.trans h
      exact wfX4_back_b60 X v1 _ z h
    · replace h := (if_neg c1).symm.trans h
      refine Rt.aload_n 0 dX4_back_16 rfl ?_
      refine gfX4_64 ly17 dX4_back_17 ?_
      refine Rt.aload_n 0 dX4_back_20 rfl ?_
      refine gfX4_56 ly17 dX4_back_21 ?_
      refine Rt.icmp_lt 34 dX4_back_24 (by decide) (fun c6 => ?_) (fun c6 => ?_)
      · replace h := (if_pos c6).symm.trans h
        refine Rt.pick [0] rfl ?_
        exact wfX4_back_b34 X (fun a0 s => fX4_back_l12 n a0 s) ih _ z h
      · replace h := (if_neg c6).symm.trans h
        refine Rt.aload_n 0 dX4_back_27 rfl ?_
        refine gfX4_86 ly17 dX4_back_28 ?_
        refine Rt.if_ne 60 dX4_back_31 (by decide) (fun c8 => ?_) (fun c8 => ?_)
        · replace h := (if_neg c8).symm.trans h
          exact wfX4_back_b60 X v1 _ z h
        · replace h := (if_pos c8).symm.trans h
          refine Rt.pick [0] rfl ?_
          exact wfX4_back_b34 X (fun a0 s => fX4_back_l12 n a0 s) ih _ z h
def fX4_back (σ : Sto) : Option (Int32 × Sto) := fX4_back_l12 300 (1 : Int32) (upS (upS σ 17 12 (0 : Int32)) 17 13 (0 : Int32))
set_option maxRecDepth 100000 in
set_option maxHeartbeats 4000000 in
theorem wfX4_back (X : Scr) (σ : Sto) (z : Int32 × Sto) (h : fX4_back σ = some z) : Rt X RX4 cX4_back 3 (rmA 7 148) .ireturn 0 [(0, .ref 17)] [] σ (some (.int z.1)) z.2 := by
  unfold fX4_back at h
  refine Rt.aload_n 0 dX4_back_0 rfl ?_
  refine Rt.iconst 0 dX4_back_1 (by decide) ?_
  refine pfX4_64 ly17 dX4_back_2 ?_
  refine Rt.aload_n 0 dX4_back_5 rfl ?_
  refine Rt.iconst 0 dX4_back_6 (by decide) ?_
  refine pfX4_86 ly17 dX4_back_7 ?_
  refine Rt.iconst 1 dX4_back_10 (by decide) ?_
  refine Rt.istore_n [(1, _), (0, _)] dX4_back_11 (by decide) rfl ?_
  refine Rt.pick [1, 0] rfl ?_
  exact wfX4_back_l12 X 300 (1 : Int32) _ z h
set_option maxRecDepth 100000 in
set_option maxHeartbeats 4000000 in
theorem mfX4_back (σ : Sto) (z : Int32 × Sto) (h : fX4_back σ = some z) : AM yX4_back cX4_back 3 (some .int) 7 148 [.ref 17] σ (some (.int z.1)) z.2 := AM.int rfl (Nat.le_of_ble_eq_true rfl) (fun X => wfX4_back X σ z h)
-- fX4_itch
def fX4_itch (v1 : Int32) (σ : Sto) : Option (Int32 × Sto) := (fX4_isIn v1 (0 : Int32) (1 : Int32) σ).bind fun q1 => if q1.1 = 0 then ((fX4_no (-2 : Int32) q1.2).bind fun q2 => some (q2.1, q2.2)) else (if v1 = 0 then (some ((q1.2 17 3), q1.2)) else (some ((q1.2 17 4), q1.2)))
set_option maxRecDepth 100000 in
set_option maxHeartbeats 4000000 in
theorem wfX4_itch (X : Scr) (v1 : Int32) (σ : Sto) (z : Int32 × Sto) (h : fX4_itch v1 σ = some z) : Rt X RX4 cX4_itch 2 (rmA 1 22) .ireturn 0 [(0, .ref 17), (1, .int v1)] [] σ (some (.int z.1)) z.2 := by
  unfold fX4_itch at h
  refine Rt.iload_n 1 dX4_itch_0 rfl ?_
  refine Rt.iconst 0 dX4_itch_1 (by decide) ?_
  refine Rt.iconst 1 dX4_itch_2 (by decide) ?_
  obtain ⟨q1, e1, h⟩ := bnd h
  refine Rt.cS (mfX4_isIn v1 (0 : Int32) (1 : Int32) _ q1 e1) lkX4_71 rfl ⟨Nat.le_of_ble_eq_true rfl, Nat.le_of_ble_eq_true rfl⟩ (Nat.le_of_ble_eq_true rfl) rfl dX4_itch_3 ?_
  refine Rt.if_ne 16 dX4_itch_6 (by decide) (fun c1 => ?_) (fun c1 => ?_)
  · replace h := (if_neg c1).symm.trans h
    refine Rt.iload_n 1 dX4_itch_16 rfl ?_
    refine Rt.if_ne 27 dX4_itch_17 (by decide) (fun c2 => ?_) (fun c2 => ?_)
    · replace h := (if_neg c2).symm.trans h
      refine Rt.aload_n 0 dX4_itch_27 rfl ?_
      refine gfX4_101 ly17 dX4_itch_28 ?_
      obtain rfl := Option.some.inj h
      exact Rt.ret (v := some (.int (q1.2 17 4))) dX4_itch_31 rfl rfl rfl
    · replace h := (if_pos c2).symm.trans h
      refine Rt.aload_n 0 dX4_itch_20 rfl ?_
      refine gfX4_98 ly17 dX4_itch_21 ?_
      refine Rt.goto 31 dX4_itch_24 (by decide) ?_
      obtain rfl := Option.some.inj h
      exact Rt.ret (v := some (.int (q1.2 17 3))) dX4_itch_31 rfl rfl rfl
  · replace h := (if_pos c1).symm.trans h
    refine Rt.aload_n 0 dX4_itch_9 rfl ?_
    refine Rt.bipush (-2) dX4_itch_10 (by decide) ?_
    obtain ⟨q2, e2, h⟩ := bnd h
    refine Rt.cV (mfX4_no (-2 : Int32) _ q2 e2) lkX4_60 ly17 rfl rfl rfl ⟨Nat.le_of_ble_eq_true rfl, Nat.le_of_ble_eq_true rfl⟩ (Nat.le_of_ble_eq_true rfl) rfl dX4_itch_12 ?_
    obtain rfl := Option.some.inj h
    exact Rt.ret (v := some (.int q2.1)) dX4_itch_15 rfl rfl rfl
set_option maxRecDepth 100000 in
set_option maxHeartbeats 4000000 in
theorem mfX4_itch (v1 : Int32) (σ : Sto) (z : Int32 × Sto) (h : fX4_itch v1 σ = some z) : AM yX4_itch cX4_itch 2 (some .int) 1 22 [.ref 17, .int v1] σ (some (.int z.1)) z.2 := AM.int rfl (Nat.le_of_ble_eq_true rfl) (fun X => wfX4_itch X v1 σ z h)
-- fX4_sore
def fX4_sore (v1 : Int32) (σ : Sto) : Option (Int32 × Sto) := (fX4_isCell v1 σ).bind fun q1 => if q1.1 = 0 then ((fX4_no (-1 : Int32) q1.2).bind fun q2 => some (q2.1, q2.2)) else (if inb v1 24 = true then (some ((q1.2 19 (v1).toNatClampNeg), q1.2)) else none)
set_option maxRecDepth 100000 in
set_option maxHeartbeats 4000000 in
theorem wfX4_sore (X : Scr) (v1 : Int32) (σ : Sto) (z : Int32 × Sto) (h : fX4_sore v1 σ = some z) : Rt X RX4 cX4_sore 2 (rmA 1 21) .ireturn 0 [(0, .ref 17), (1, .int v1)] [] σ (some (.int z.1)) z.2 := by
  unfold fX4_sore at h
  refine Rt.iload_n 1 dX4_sore_0 rfl ?_
  obtain ⟨q1, e1, h⟩ := bnd h
  refine Rt.cS (mfX4_isCell v1 _ q1 e1) lkX4_104 rfl ⟨Nat.le_of_ble_eq_true rfl, Nat.le_of_ble_eq_true rfl⟩ (Nat.le_of_ble_eq_true rfl) rfl dX4_sore_1 ?_
  refine Rt.if_eq 16 dX4_sore_4 (by decide) (fun c1 => ?_) (fun c1 => ?_)
  · replace h := (if_pos c1).symm.trans h
    refine Rt.aload_n 0 dX4_sore_16 rfl ?_
    refine Rt.iconst (-1) dX4_sore_17 (by decide) ?_
    obtain ⟨q2, e2, h⟩ := bnd h
    refine Rt.cV (mfX4_no (-1 : Int32) _ q2 e2) lkX4_60 ly17 rfl rfl rfl ⟨Nat.le_of_ble_eq_true rfl, Nat.le_of_ble_eq_true rfl⟩ (Nat.le_of_ble_eq_true rfl) rfl dX4_sore_18 ?_
    obtain rfl := Option.some.inj h
    exact Rt.ret (v := some (.int q2.1)) dX4_sore_21 rfl rfl rfl
  · replace h := (if_neg c1).symm.trans h
    refine Rt.aload_n 0 dX4_sore_7 rfl ?_
    refine gfX4_13 ly17 dX4_sore_8 ?_
    refine Rt.iload_n 1 dX4_sore_11 rfl ?_
    obtain ⟨g2, h⟩ := gd h
    refine Rt.iald ly19 g2 dX4_sore_12 ?_
    refine Rt.goto 21 dX4_sore_13 (by decide) ?_
    obtain rfl := Option.some.inj h
    exact Rt.ret (v := some (.int (q1.2 19 (v1).toNatClampNeg))) dX4_sore_21 rfl rfl rfl
set_option maxRecDepth 100000 in
set_option maxHeartbeats 4000000 in
theorem mfX4_sore (v1 : Int32) (σ : Sto) (z : Int32 × Sto) (h : fX4_sore v1 σ = some z) : AM yX4_sore cX4_sore 2 (some .int) 1 21 [.ref 17, .int v1] σ (some (.int z.1)) z.2 := AM.int rfl (Nat.le_of_ble_eq_true rfl) (fun X => wfX4_sore X v1 σ z h)
-- fX4_heal
def fX4_heal (v1 : Int32) (σ : Sto) : Option (Int32 × Sto) := (fX4_isCell v1 σ).bind fun q1 => if q1.1 = 0 then ((fX4_no (-1 : Int32) q1.2).bind fun q2 => some (q2.1, q2.2)) else (if inb v1 24 = true then (if inb v1 24 = true then (some ((q1.2 19 (v1).toNatClampNeg), (upS q1.2 19 (v1).toNatClampNeg (0 : Int32)))) else none) else none)
set_option maxRecDepth 100000 in
set_option maxHeartbeats 4000000 in
theorem wfX4_heal (X : Scr) (v1 : Int32) (σ : Sto) (z : Int32 × Sto) (h : fX4_heal v1 σ = some z) : Rt X RX4 cX4_heal 3 (rmA 1 21) .ireturn 0 [(0, .ref 17), (1, .int v1)] [] σ (some (.int z.1)) z.2 := by
  unfold fX4_heal at h
  refine Rt.iload_n 1 dX4_heal_0 rfl ?_
  obtain ⟨q1, e1, h⟩ := bnd h
  refine Rt.cS (mfX4_isCell v1 _ q1 e1) lkX4_104 rfl ⟨Nat.le_of_ble_eq_true rfl, Nat.le_of_ble_eq_true rfl⟩ (Nat.le_of_ble_eq_true rfl) rfl dX4_heal_1 ?_
  refine Rt.if_ne 13 dX4_heal_4 (by decide) (fun c1 => ?_) (fun c1 => ?_)
  · replace h := (if_neg c1).symm.trans h
    refine Rt.aload_n 0 dX4_heal_13 rfl ?_
    refine gfX4_13 ly17 dX4_heal_14 ?_
    refine Rt.iload_n 1 dX4_heal_17 rfl ?_
    obtain ⟨g2, h⟩ := gd h
    refine Rt.iald ly19 g2 dX4_heal_18 ?_
    refine Rt.istore_n [(2, _), (0, _), (1, _)] dX4_heal_19 (by decide) rfl ?_
    refine Rt.aload_n 1 dX4_heal_20 rfl ?_
    refine gfX4_13 ly17 dX4_heal_21 ?_
    refine Rt.iload_n 2 dX4_heal_24 rfl ?_
    refine Rt.iconst 0 dX4_heal_25 (by decide) ?_
    obtain ⟨g3, h⟩ := gd h
    refine Rt.iast ly19 g3 dX4_heal_26 ?_
    refine Rt.iload_n 0 dX4_heal_27 rfl ?_
    obtain rfl := Option.some.inj h
    exact Rt.ret (v := some (.int (q1.2 19 (v1).toNatClampNeg))) dX4_heal_28 rfl rfl rfl
  · replace h := (if_pos c1).symm.trans h
    refine Rt.aload_n 0 dX4_heal_7 rfl ?_
    refine Rt.iconst (-1) dX4_heal_8 (by decide) ?_
    obtain ⟨q2, e2, h⟩ := bnd h
    refine Rt.cV (mfX4_no (-1 : Int32) _ q2 e2) lkX4_60 ly17 rfl rfl rfl ⟨Nat.le_of_ble_eq_true rfl, Nat.le_of_ble_eq_true rfl⟩ (Nat.le_of_ble_eq_true rfl) rfl dX4_heal_9 ?_
    obtain rfl := Option.some.inj h
    exact Rt.ret (v := some (.int q2.1)) dX4_heal_12 rfl rfl rfl
set_option maxRecDepth 100000 in
set_option maxHeartbeats 4000000 in
theorem mfX4_heal (v1 : Int32) (σ : Sto) (z : Int32 × Sto) (h : fX4_heal v1 σ = some z) : AM yX4_heal cX4_heal 3 (some .int) 1 21 [.ref 17, .int v1] σ (some (.int z.1)) z.2 := AM.int rfl (Nat.le_of_ble_eq_true rfl) (fun X => wfX4_heal X v1 σ z h)
-- fX4_he
def fX4_he_b26 (v1 : Int32) (v2 : Int32) (s0 : Int32) (σ : Sto) : Option (Int32 × Sto) := if s0 = 0 then (if inb v1 4 = true then (if inb v1 4 = true then (some ((σ 20 (v1).toNatClampNeg), (upS σ 20 (v1).toNatClampNeg v2))) else none) else none) else ((fX4_no s0 σ).bind fun q5 => some (q5.1, q5.2))
set_option maxRecDepth 100000 in
set_option maxHeartbeats 4000000 in
theorem wfX4_he_b26 (X : Scr) (v1 : Int32) (v2 : Int32) (s0 : Int32) (σ : Sto) (z : Int32 × Sto) (h : fX4_he_b26 v1 v2 s0 σ = some z) : Rt X RX4 cX4_he 5 (rmA 1 22) .ireturn 26 [(0, .ref 17), (1, .int v1), (2, .int v2)] [.int s0] σ (some (.int z.1)) z.2 := by
  unfold fX4_he_b26 at h
  refine Rt.istore_n [(3, _), (0, _), (1, _), (2, _)] dX4_he_26 (by decide) rfl ?_
  refine Rt.iload_n 0 dX4_he_27 rfl ?_
  refine Rt.if_eq 37 dX4_he_28 (by decide) (fun c2 => ?_) (fun c2 => ?_)
  · replace h := (if_pos c2).symm.trans h
    refine Rt.aload_n 1 dX4_he_37 rfl ?_
    refine gfX4_16 ly17 dX4_he_38 ?_
    refine Rt.iload_n 2 dX4_he_41 rfl ?_
    obtain ⟨g3, h⟩ := gd h
    refine Rt.iald ly20 g3 dX4_he_42 ?_
    refine Rt.istore [(4, _), (3, _), (0, _), (1, _), (2, _)] dX4_he_43 (by decide) rfl ?_
    refine Rt.aload_n 2 dX4_he_45 rfl ?_
    refine gfX4_16 ly17 dX4_he_46 ?_
    refine Rt.iload_n 3 dX4_he_49 rfl ?_
    refine Rt.iload_n 4 dX4_he_50 rfl ?_
    obtain ⟨g4, h⟩ := gd h
    refine Rt.iast ly20 g4 dX4_he_51 ?_
    refine Rt.iload 0 dX4_he_52 rfl ?_
    obtain rfl := Option.some.inj h
    exact Rt.ret (v := some (.int (σ 20 (v1).toNatClampNeg))) dX4_he_54 rfl rfl rfl
  · replace h := (if_neg c2).symm.trans h
    refine Rt.aload_n 1 dX4_he_31 rfl ?_
    refine Rt.iload_n 0 dX4_he_32 rfl ?_
    obtain ⟨q5, e5, h⟩ := bnd h
    refine Rt.cV (mfX4_no s0 _ q5 e5) lkX4_60 ly17 rfl rfl rfl ⟨Nat.le_of_ble_eq_true rfl, Nat.le_of_ble_eq_true rfl⟩ (Nat.le_of_ble_eq_true rfl) rfl dX4_he_33 ?_
    obtain rfl := Option.some.inj h
    exact Rt.ret (v := some (.int q5.1)) dX4_he_36 rfl rfl rfl
def fX4_he (v1 : Int32) (v2 : Int32) (σ : Sto) : Option (Int32 × Sto) := (fX4_isIn v1 (0 : Int32) (3 : Int32) σ).bind fun q1 => if q1.1 = 0 then (fX4_he_b26 v1 v2 (-2 : Int32) q1.2) else ((fX4_leastOf v1 q1.2).bind fun q2 => (fX4_mostOf v1 q2.2).bind fun q3 => (fX4_bound v2 q2.1 q3.1 q3.2).bind fun q4 => fX4_he_b26 v1 v2 q4.1 q4.2)
set_option maxRecDepth 100000 in
set_option maxHeartbeats 4000000 in
theorem wfX4_he (X : Scr) (v1 : Int32) (v2 : Int32) (σ : Sto) (z : Int32 × Sto) (h : fX4_he v1 v2 σ = some z) : Rt X RX4 cX4_he 5 (rmA 1 22) .ireturn 0 [(0, .ref 17), (1, .int v1), (2, .int v2)] [] σ (some (.int z.1)) z.2 := by
  unfold fX4_he at h
  refine Rt.iload_n 1 dX4_he_0 rfl ?_
  refine Rt.iconst 0 dX4_he_1 (by decide) ?_
  refine Rt.iconst 3 dX4_he_2 (by decide) ?_
  obtain ⟨q1, e1, h⟩ := bnd h
  refine Rt.cS (mfX4_isIn v1 (0 : Int32) (3 : Int32) _ q1 e1) lkX4_71 rfl ⟨Nat.le_of_ble_eq_true rfl, Nat.le_of_ble_eq_true rfl⟩ (Nat.le_of_ble_eq_true rfl) rfl dX4_he_3 ?_
  refine Rt.if_ne 14 dX4_he_6 (by decide) (fun c1 => ?_) (fun c1 => ?_)
  · replace h := (if_neg c1).symm.trans h
    refine Rt.iload_n 2 dX4_he_14 rfl ?_
    refine Rt.iload_n 1 dX4_he_15 rfl ?_
    obtain ⟨q2, e2, h⟩ := bnd h
    refine Rt.cS (mfX4_leastOf v1 _ q2 e2) lkX4_92 rfl ⟨Nat.le_of_ble_eq_true rfl, Nat.le_of_ble_eq_true rfl⟩ (Nat.le_of_ble_eq_true rfl) rfl dX4_he_16 ?_
    refine Rt.iload_n 1 dX4_he_19 rfl ?_
    obtain ⟨q3, e3, h⟩ := bnd h
    refine Rt.cS (mfX4_mostOf v1 _ q3 e3) lkX4_95 rfl ⟨Nat.le_of_ble_eq_true rfl, Nat.le_of_ble_eq_true rfl⟩ (Nat.le_of_ble_eq_true rfl) rfl dX4_he_20 ?_
    obtain ⟨q4, e4, h⟩ := bnd h
    refine Rt.cS (mfX4_bound v2 q2.1 q3.1 _ q4 e4) lkX4_52 rfl ⟨Nat.le_of_ble_eq_true rfl, Nat.le_of_ble_eq_true rfl⟩ (Nat.le_of_ble_eq_true rfl) rfl dX4_he_23 ?_
    exact wfX4_he_b26 X v1 v2 q4.1 _ z h
  · replace h := (if_pos c1).symm.trans h
    refine Rt.bipush (-2) dX4_he_9 (by decide) ?_
    refine Rt.goto 26 dX4_he_11 (by decide) ?_
    exact wfX4_he_b26 X v1 v2 (-2 : Int32) _ z h
set_option maxRecDepth 100000 in
set_option maxHeartbeats 4000000 in
theorem mfX4_he (v1 : Int32) (v2 : Int32) (σ : Sto) (z : Int32 × Sto) (h : fX4_he v1 v2 σ = some z) : AM yX4_he cX4_he 5 (some .int) 1 22 [.ref 17, .int v1, .int v2] σ (some (.int z.1)) z.2 := AM.int rfl (Nat.le_of_ble_eq_true rfl) (fun X => wfX4_he X v1 v2 σ z h)
-- fX4_stroke
def fX4_stroke_b27 (v1 : Int32) (s0 : Int32) (σ : Sto) : Option (Int32 × Sto) := if s0 = 0 then ((fX4_strokes v1 σ).bind fun q2 => some ((q2.2 17 4), q2.2)) else ((fX4_no s0 σ).bind fun q3 => some (q3.1, q3.2))
set_option maxRecDepth 100000 in
set_option maxHeartbeats 4000000 in
theorem wfX4_stroke_b27 (X : Scr) (v1 : Int32) (s0 : Int32) (σ : Sto) (z : Int32 × Sto) (h : fX4_stroke_b27 v1 s0 σ = some z) : Rt X RX4 cX4_stroke 3 (rmA 6 126) .ireturn 27 [(0, .ref 17), (1, .int v1)] [.int s0] σ (some (.int z.1)) z.2 := by
  unfold fX4_stroke_b27 at h
  refine Rt.istore_n [(2, _), (0, _), (1, _)] dX4_stroke_27 (by decide) rfl ?_
  refine Rt.iload_n 0 dX4_stroke_28 rfl ?_
  refine Rt.if_eq 38 dX4_stroke_29 (by decide) (fun c3 => ?_) (fun c3 => ?_)
  · replace h := (if_pos c3).symm.trans h
    refine Rt.aload_n 1 dX4_stroke_38 rfl ?_
    refine Rt.iload_n 2 dX4_stroke_39 rfl ?_
    obtain ⟨q2, e2, h⟩ := bnd h
    refine Rt.cV0 (mfX4_strokes v1 _ q2 e2) lkX4_113 ly17 rfl rfl rfl ⟨Nat.le_of_ble_eq_true rfl, Nat.le_of_ble_eq_true rfl⟩ (Nat.le_of_ble_eq_true rfl) rfl dX4_stroke_40 ?_
    refine Rt.aload_n 1 dX4_stroke_43 rfl ?_
    refine gfX4_101 ly17 dX4_stroke_44 ?_
    obtain rfl := Option.some.inj h
    exact Rt.ret (v := some (.int (q2.2 17 4))) dX4_stroke_47 rfl rfl rfl
  · replace h := (if_neg c3).symm.trans h
    refine Rt.aload_n 1 dX4_stroke_32 rfl ?_
    refine Rt.iload_n 0 dX4_stroke_33 rfl ?_
    obtain ⟨q3, e3, h⟩ := bnd h
    refine Rt.cV (mfX4_no s0 _ q3 e3) lkX4_60 ly17 rfl rfl rfl ⟨Nat.le_of_ble_eq_true rfl, Nat.le_of_ble_eq_true rfl⟩ (Nat.le_of_ble_eq_true rfl) rfl dX4_stroke_34 ?_
    obtain rfl := Option.some.inj h
    exact Rt.ret (v := some (.int q3.1)) dX4_stroke_37 rfl rfl rfl
def fX4_stroke (v1 : Int32) (σ : Sto) : Option (Int32 × Sto) := (fX4_isCell v1 σ).bind fun q1 => if q1.1 = 0 then (fX4_stroke_b27 v1 (-1 : Int32) q1.2) else (if (q1.2 17 6) = (999 : Int32) then (fX4_stroke_b27 v1 (-6 : Int32) q1.2) else (fX4_stroke_b27 v1 (0 : Int32) q1.2))
set_option maxRecDepth 100000 in
set_option maxHeartbeats 4000000 in
theorem wfX4_stroke (X : Scr) (v1 : Int32) (σ : Sto) (z : Int32 × Sto) (h : fX4_stroke v1 σ = some z) : Rt X RX4 cX4_stroke 3 (rmA 6 126) .ireturn 0 [(0, .ref 17), (1, .int v1)] [] σ (some (.int z.1)) z.2 := by
  unfold fX4_stroke at h
  refine Rt.iload_n 1 dX4_stroke_0 rfl ?_
  obtain ⟨q1, e1, h⟩ := bnd h
  refine Rt.cS (mfX4_isCell v1 _ q1 e1) lkX4_104 rfl ⟨Nat.le_of_ble_eq_true rfl, Nat.le_of_ble_eq_true rfl⟩ (Nat.le_of_ble_eq_true rfl) rfl dX4_stroke_1 ?_
  refine Rt.if_ne 11 dX4_stroke_4 (by decide) (fun c1 => ?_) (fun c1 => ?_)
  · replace h := (if_neg c1).symm.trans h
    refine Rt.aload_n 0 dX4_stroke_11 rfl ?_
    refine gfX4_110 ly17 dX4_stroke_12 ?_
    refine Rt.sipush 999 dX4_stroke_15 (by decide) ?_
    refine Rt.icmp_ne 26 dX4_stroke_18 (by decide) (fun c2 => ?_) (fun c2 => ?_)
    · replace h := (if_neg c2).symm.trans h
      refine Rt.iconst 0 dX4_stroke_26 (by decide) ?_
      exact wfX4_stroke_b27 X v1 (0 : Int32) _ z h
    · replace h := (if_pos c2).symm.trans h
      refine Rt.bipush (-6) dX4_stroke_21 (by decide) ?_
      refine Rt.goto 27 dX4_stroke_23 (by decide) ?_
      exact wfX4_stroke_b27 X v1 (-6 : Int32) _ z h
  · replace h := (if_pos c1).symm.trans h
    refine Rt.iconst (-1) dX4_stroke_7 (by decide) ?_
    refine Rt.goto 27 dX4_stroke_8 (by decide) ?_
    exact wfX4_stroke_b27 X v1 (-1 : Int32) _ z h
set_option maxRecDepth 100000 in
set_option maxHeartbeats 4000000 in
theorem mfX4_stroke (v1 : Int32) (σ : Sto) (z : Int32 × Sto) (h : fX4_stroke v1 σ = some z) : AM yX4_stroke cX4_stroke 3 (some .int) 6 126 [.ref 17, .int v1] σ (some (.int z.1)) z.2 := AM.int rfl (Nat.le_of_ble_eq_true rfl) (fun X => wfX4_stroke X v1 σ z h)
-- fX4_farOf
def fX4_farOf (v0 : Int32) (v1 : Int32) (σ : Sto) : Option (Int32 × Sto) := (fX4_apart (v0 / (6 : Int32)) (v1 / (6 : Int32)) σ).bind fun q1 => (fX4_apart (irm v0 (6 : Int32)) (irm v1 (6 : Int32)) q1.2).bind fun q2 => some ((q1.1 + q2.1), q2.2)
set_option maxRecDepth 100000 in
set_option maxHeartbeats 4000000 in
theorem wfX4_farOf (X : Scr) (v0 : Int32) (v1 : Int32) (σ : Sto) (z : Int32 × Sto) (h : fX4_farOf v0 v1 σ = some z) : Rt X RX4 cX4_farOf 2 (rmA 1 21) .ireturn 0 [(0, .int v0), (1, .int v1)] [] σ (some (.int z.1)) z.2 := by
  unfold fX4_farOf at h
  refine Rt.iload_n 0 dX4_farOf_0 rfl ?_
  refine Rt.bipush 6 dX4_farOf_1 (by decide) ?_
  refine Rt.idiv dX4_farOf_3 (by decide) ?_
  refine Rt.iload_n 1 dX4_farOf_4 rfl ?_
  refine Rt.bipush 6 dX4_farOf_5 (by decide) ?_
  refine Rt.idiv dX4_farOf_7 (by decide) ?_
  obtain ⟨q1, e1, h⟩ := bnd h
  refine Rt.cS (mfX4_apart (v0 / (6 : Int32)) (v1 / (6 : Int32)) _ q1 e1) lkX4_48 rfl ⟨Nat.le_of_ble_eq_true rfl, Nat.le_of_ble_eq_true rfl⟩ (Nat.le_of_ble_eq_true rfl) rfl dX4_farOf_8 ?_
  refine Rt.iload_n 0 dX4_farOf_11 rfl ?_
  refine Rt.bipush 6 dX4_farOf_12 (by decide) ?_
  refine Rt.rem dX4_farOf_14 (by decide) ?_
  refine Rt.iload_n 1 dX4_farOf_15 rfl ?_
  refine Rt.bipush 6 dX4_farOf_16 (by decide) ?_
  refine Rt.rem dX4_farOf_18 (by decide) ?_
  obtain ⟨q2, e2, h⟩ := bnd h
  refine Rt.cS (mfX4_apart (irm v0 (6 : Int32)) (irm v1 (6 : Int32)) _ q2 e2) lkX4_48 rfl ⟨Nat.le_of_ble_eq_true rfl, Nat.le_of_ble_eq_true rfl⟩ (Nat.le_of_ble_eq_true rfl) rfl dX4_farOf_19 ?_
  refine Rt.iadd dX4_farOf_22 ?_
  obtain rfl := Option.some.inj h
  exact Rt.ret (v := some (.int (q1.1 + q2.1))) dX4_farOf_23 rfl rfl rfl
set_option maxRecDepth 100000 in
set_option maxHeartbeats 4000000 in
theorem mfX4_farOf (v0 : Int32) (v1 : Int32) (σ : Sto) (z : Int32 × Sto) (h : fX4_farOf v0 v1 σ = some z) : AM yX4_farOf cX4_farOf 2 (some .int) 1 21 [.int v0, .int v1] σ (some (.int z.1)) z.2 := AM.int rfl (Nat.le_of_ble_eq_true rfl) (fun X => wfX4_farOf X v0 v1 σ z h)
-- fX4_far
def fX4_far_b22 (σ : Sto) : Option (Int32 × Sto) := (fX4_no (-1 : Int32) σ).bind fun q2 => some (q2.1, q2.2)
set_option maxRecDepth 100000 in
set_option maxHeartbeats 4000000 in
theorem wfX4_far_b22 (X : Scr) (σ : Sto) (z : Int32 × Sto) (h : fX4_far_b22 σ = some z) : Rt X RX4 cX4_far 3 (rmA 2 42) .ireturn 22 [(0, .ref 17)] [] σ (some (.int z.1)) z.2 := by
  unfold fX4_far_b22 at h
  refine Rt.aload_n 0 dX4_far_22 rfl ?_
  refine Rt.iconst (-1) dX4_far_23 (by decide) ?_
  obtain ⟨q2, e2, h⟩ := bnd h
  refine Rt.cV (mfX4_no (-1 : Int32) _ q2 e2) lkX4_60 ly17 rfl rfl rfl ⟨Nat.le_of_ble_eq_true rfl, Nat.le_of_ble_eq_true rfl⟩ (Nat.le_of_ble_eq_true rfl) rfl dX4_far_24 ?_
  obtain rfl := Option.some.inj h
  exact Rt.ret (v := some (.int q2.1)) dX4_far_27 rfl rfl rfl
def fX4_far (v1 : Int32) (v2 : Int32) (σ : Sto) : Option (Int32 × Sto) := (fX4_isCell v1 σ).bind fun q1 => if q1.1 = 0 then (fX4_far_b22 q1.2) else ((fX4_isCell v2 q1.2).bind fun q3 => if q3.1 = 0 then (fX4_far_b22 q3.2) else ((fX4_farOf v1 v2 q3.2).bind fun q4 => some (q4.1, q4.2)))
set_option maxRecDepth 100000 in
set_option maxHeartbeats 4000000 in
theorem wfX4_far (X : Scr) (v1 : Int32) (v2 : Int32) (σ : Sto) (z : Int32 × Sto) (h : fX4_far v1 v2 σ = some z) : Rt X RX4 cX4_far 3 (rmA 2 42) .ireturn 0 [(0, .ref 17), (1, .int v1), (2, .int v2)] [] σ (some (.int z.1)) z.2 := by
  unfold fX4_far at h
  refine Rt.iload_n 1 dX4_far_0 rfl ?_
  obtain ⟨q1, e1, h⟩ := bnd h
  refine Rt.cS (mfX4_isCell v1 _ q1 e1) lkX4_104 rfl ⟨Nat.le_of_ble_eq_true rfl, Nat.le_of_ble_eq_true rfl⟩ (Nat.le_of_ble_eq_true rfl) rfl dX4_far_1 ?_
  refine Rt.if_eq 22 dX4_far_4 (by decide) (fun c1 => ?_) (fun c1 => ?_)
  · replace h := (if_pos c1).symm.trans h
    refine Rt.pick [0] rfl ?_
    exact wfX4_far_b22 X _ z h
  · replace h := (if_neg c1).symm.trans h
    refine Rt.iload_n 2 dX4_far_7 rfl ?_
    obtain ⟨q3, e3, h⟩ := bnd h
    refine Rt.cS (mfX4_isCell v2 _ q3 e3) lkX4_104 rfl ⟨Nat.le_of_ble_eq_true rfl, Nat.le_of_ble_eq_true rfl⟩ (Nat.le_of_ble_eq_true rfl) rfl dX4_far_8 ?_
    refine Rt.if_eq 22 dX4_far_11 (by decide) (fun c2 => ?_) (fun c2 => ?_)
    · replace h := (if_pos c2).symm.trans h
      refine Rt.pick [0] rfl ?_
      exact wfX4_far_b22 X _ z h
    · replace h := (if_neg c2).symm.trans h
      refine Rt.iload_n 1 dX4_far_14 rfl ?_
      refine Rt.iload_n 2 dX4_far_15 rfl ?_
      obtain ⟨q4, e4, h⟩ := bnd h
      refine Rt.cS (mfX4_farOf v1 v2 _ q4 e4) lkX4_167 rfl ⟨Nat.le_of_ble_eq_true rfl, Nat.le_of_ble_eq_true rfl⟩ (Nat.le_of_ble_eq_true rfl) rfl dX4_far_16 ?_
      refine Rt.goto 27 dX4_far_19 (by decide) ?_
      obtain rfl := Option.some.inj h
      exact Rt.ret (v := some (.int q4.1)) dX4_far_27 rfl rfl rfl
set_option maxRecDepth 100000 in
set_option maxHeartbeats 4000000 in
theorem mfX4_far (v1 : Int32) (v2 : Int32) (σ : Sto) (z : Int32 × Sto) (h : fX4_far v1 v2 σ = some z) : AM yX4_far cX4_far 3 (some .int) 2 42 [.ref 17, .int v1, .int v2] σ (some (.int z.1)) z.2 := AM.int rfl (Nat.le_of_ble_eq_true rfl) (fun X => wfX4_far X v1 v2 σ z h)
-- fX4_wordBy
def fX4_wordBy_b118 (v7 : Int32) (s0 : Int32) (σ : Sto) : Option (Int32 × Sto) := if v7 = 0 then (some ((s0 + (1 : Int32)), σ)) else (some ((s0 + (0 : Int32)), σ))
set_option maxRecDepth 100000 in
set_option maxHeartbeats 4000000 in
theorem wfX4_wordBy_b118 (X : Scr) (v7 : Int32) (s0 : Int32) (σ : Sto) (z : Int32 × Sto) (h : fX4_wordBy_b118 v7 s0 σ = some z) : Rt X RX4 cX4_wordBy 8 (rmA 1 21) .ireturn 118 [(7, .int v7)] [.int s0] σ (some (.int z.1)) z.2 := by
  unfold fX4_wordBy_b118 at h
  refine Rt.iload 0 dX4_wordBy_118 rfl ?_
  refine Rt.if_eq 127 dX4_wordBy_120 (by decide) (fun c8 => ?_) (fun c8 => ?_)
  · replace h := (if_pos c8).symm.trans h
    refine Rt.iconst 1 dX4_wordBy_127 (by decide) ?_
    refine Rt.iadd dX4_wordBy_128 ?_
    obtain rfl := Option.some.inj h
    exact Rt.ret (v := some (.int (s0 + (1 : Int32)))) dX4_wordBy_129 rfl rfl rfl
  · replace h := (if_neg c8).symm.trans h
    refine Rt.iconst 0 dX4_wordBy_123 (by decide) ?_
    refine Rt.goto 128 dX4_wordBy_124 (by decide) ?_
    refine Rt.iadd dX4_wordBy_128 ?_
    obtain rfl := Option.some.inj h
    exact Rt.ret (v := some (.int (s0 + (0 : Int32)))) dX4_wordBy_129 rfl rfl rfl
def fX4_wordBy_b99 (v4 : Int32) (v6 : Int32) (s0 : Int32) (σ : Sto) : Option (Int32 × Sto) := (fX4_apart v6 (0 : Int32) σ).bind fun q1 => if q1.1 < v4 then (fX4_wordBy_b118 s0 (2 : Int32) q1.2) else (fX4_wordBy_b118 s0 (6 : Int32) q1.2)
set_option maxRecDepth 100000 in
set_option maxHeartbeats 4000000 in
theorem wfX4_wordBy_b99 (X : Scr) (v4 : Int32) (v6 : Int32) (s0 : Int32) (σ : Sto) (z : Int32 × Sto) (h : fX4_wordBy_b99 v4 v6 s0 σ = some z) : Rt X RX4 cX4_wordBy 8 (rmA 1 21) .ireturn 99 [(4, .int v4), (6, .int v6)] [.int s0] σ (some (.int z.1)) z.2 := by
  unfold fX4_wordBy_b99 at h
  refine Rt.istore [(7, _), (4, _), (6, _)] dX4_wordBy_99 (by decide) rfl ?_
  refine Rt.iload 2 dX4_wordBy_101 rfl ?_
  refine Rt.iconst 0 dX4_wordBy_103 (by decide) ?_
  obtain ⟨q1, e1, h⟩ := bnd h
  refine Rt.cS (mfX4_apart v6 (0 : Int32) _ q1 e1) lkX4_48 rfl ⟨Nat.le_of_ble_eq_true rfl, Nat.le_of_ble_eq_true rfl⟩ (Nat.le_of_ble_eq_true rfl) rfl dX4_wordBy_104 ?_
  refine Rt.iload 1 dX4_wordBy_107 rfl ?_
  refine Rt.icmp_lt 117 dX4_wordBy_109 (by decide) (fun c7 => ?_) (fun c7 => ?_)
  · replace h := (if_pos c7).symm.trans h
    refine Rt.iconst 2 dX4_wordBy_117 (by decide) ?_
    refine Rt.pick [0] rfl ?_
    exact wfX4_wordBy_b118 X s0 (2 : Int32) _ z h
  · replace h := (if_neg c7).symm.trans h
    refine Rt.bipush 6 dX4_wordBy_112 (by decide) ?_
    refine Rt.goto 118 dX4_wordBy_114 (by decide) ?_
    refine Rt.pick [0] rfl ?_
    exact wfX4_wordBy_b118 X s0 (6 : Int32) _ z h
def fX4_wordBy_b91 (v4 : Int32) (v6 : Int32) (s0 : Int32) (s1 : Int32) (σ : Sto) : Option (Int32 × Sto) := if s1 = s0 then (fX4_wordBy_b99 v4 v6 (1 : Int32) σ) else (fX4_wordBy_b99 v4 v6 (0 : Int32) σ)
set_option maxRecDepth 100000 in
set_option maxHeartbeats 4000000 in
theorem wfX4_wordBy_b91 (X : Scr) (v4 : Int32) (v6 : Int32) (s0 : Int32) (s1 : Int32) (σ : Sto) (z : Int32 × Sto) (h : fX4_wordBy_b91 v4 v6 s0 s1 σ = some z) : Rt X RX4 cX4_wordBy 8 (rmA 1 21) .ireturn 91 [(4, .int v4), (6, .int v6)] [.int s0, .int s1] σ (some (.int z.1)) z.2 := by
  unfold fX4_wordBy_b91 at h
  refine Rt.icmp_ne 98 dX4_wordBy_91 (by decide) (fun c6 => ?_) (fun c6 => ?_)
  · replace h := (if_neg c6).symm.trans h
    refine Rt.iconst 0 dX4_wordBy_98 (by decide) ?_
    exact wfX4_wordBy_b99 X v4 v6 (0 : Int32) _ z h
  · replace h := (if_pos c6).symm.trans h
    refine Rt.iconst 1 dX4_wordBy_94 (by decide) ?_
    refine Rt.goto 99 dX4_wordBy_95 (by decide) ?_
    exact wfX4_wordBy_b99 X v4 v6 (1 : Int32) _ z h
def fX4_wordBy_b82 (v3 : Int32) (v4 : Int32) (v6 : Int32) (s0 : Int32) (σ : Sto) : Option (Int32 × Sto) := if v3 = 0 then (fX4_wordBy_b91 v4 v6 (1 : Int32) s0 σ) else (fX4_wordBy_b91 v4 v6 (0 : Int32) s0 σ)
set_option maxRecDepth 100000 in
set_option maxHeartbeats 4000000 in
theorem wfX4_wordBy_b82 (X : Scr) (v3 : Int32) (v4 : Int32) (v6 : Int32) (s0 : Int32) (σ : Sto) (z : Int32 × Sto) (h : fX4_wordBy_b82 v3 v4 v6 s0 σ = some z) : Rt X RX4 cX4_wordBy 8 (rmA 1 21) .ireturn 82 [(3, .int v3), (4, .int v4), (6, .int v6)] [.int s0] σ (some (.int z.1)) z.2 := by
  unfold fX4_wordBy_b82 at h
  refine Rt.iload_n 0 dX4_wordBy_82 rfl ?_
  refine Rt.if_ne 90 dX4_wordBy_83 (by decide) (fun c5 => ?_) (fun c5 => ?_)
  · replace h := (if_neg c5).symm.trans h
    refine Rt.iconst 0 dX4_wordBy_90 (by decide) ?_
    refine Rt.pick [1, 2] rfl ?_
    exact wfX4_wordBy_b91 X v4 v6 (0 : Int32) s0 _ z h
  · replace h := (if_pos c5).symm.trans h
    refine Rt.iconst 1 dX4_wordBy_86 (by decide) ?_
    refine Rt.goto 91 dX4_wordBy_87 (by decide) ?_
    refine Rt.pick [1, 2] rfl ?_
    exact wfX4_wordBy_b91 X v4 v6 (1 : Int32) s0 _ z h
def fX4_wordBy_b52 (v5 : Int32) (s0 : Int32) (σ : Sto) : Option (Int32 × Sto) := if 0 ≤ v5 then (some ((s0 + (1 : Int32)), σ)) else (some ((s0 + (0 : Int32)), σ))
set_option maxRecDepth 100000 in
set_option maxHeartbeats 4000000 in
theorem wfX4_wordBy_b52 (X : Scr) (v5 : Int32) (s0 : Int32) (σ : Sto) (z : Int32 × Sto) (h : fX4_wordBy_b52 v5 s0 σ = some z) : Rt X RX4 cX4_wordBy 8 (rmA 1 21) .ireturn 52 [(5, .int v5)] [.int s0] σ (some (.int z.1)) z.2 := by
  unfold fX4_wordBy_b52 at h
  refine Rt.iload 0 dX4_wordBy_52 rfl ?_
  refine Rt.if_ge 61 dX4_wordBy_54 (by decide) (fun c10 => ?_) (fun c10 => ?_)
  · replace h := (if_pos c10).symm.trans h
    refine Rt.iconst 1 dX4_wordBy_61 (by decide) ?_
    refine Rt.iadd dX4_wordBy_62 ?_
    obtain rfl := Option.some.inj h
    exact Rt.ret (v := some (.int (s0 + (1 : Int32)))) dX4_wordBy_63 rfl rfl rfl
  · replace h := (if_neg c10).symm.trans h
    refine Rt.iconst 0 dX4_wordBy_57 (by decide) ?_
    refine Rt.goto 62 dX4_wordBy_58 (by decide) ?_
    refine Rt.iadd dX4_wordBy_62 ?_
    obtain rfl := Option.some.inj h
    exact Rt.ret (v := some (.int (s0 + (0 : Int32)))) dX4_wordBy_63 rfl rfl rfl
def fX4_wordBy (v1 : Int32) (v2 : Int32) (v3 : Int32) (v4 : Int32) (σ : Sto) : Option (Int32 × Sto) := if v2 = (24 : Int32) then (some ((9 : Int32), σ)) else (if ((v2 / (6 : Int32)) - (v1 / (6 : Int32))) = 0 then (if ((irm v2 (6 : Int32)) - (irm v1 (6 : Int32))) = 0 then (some ((8 : Int32), σ)) else (if 0 ≤ ((irm v2 (6 : Int32)) - (irm v1 (6 : Int32))) then (fX4_wordBy_b82 v3 v4 ((irm v2 (6 : Int32)) - (irm v1 (6 : Int32))) (0 : Int32) σ) else (fX4_wordBy_b82 v3 v4 ((irm v2 (6 : Int32)) - (irm v1 (6 : Int32))) (1 : Int32) σ))) else ((fX4_apart ((v2 / (6 : Int32)) - (v1 / (6 : Int32))) (0 : Int32) σ).bind fun q2 => if q2.1 < v4 then (fX4_wordBy_b52 ((v2 / (6 : Int32)) - (v1 / (6 : Int32))) (0 : Int32) q2.2) else (fX4_wordBy_b52 ((v2 / (6 : Int32)) - (v1 / (6 : Int32))) (4 : Int32) q2.2)))
set_option maxRecDepth 100000 in
set_option maxHeartbeats 4000000 in
theorem wfX4_wordBy (X : Scr) (v1 : Int32) (v2 : Int32) (v3 : Int32) (v4 : Int32) (σ : Sto) (z : Int32 × Sto) (h : fX4_wordBy v1 v2 v3 v4 σ = some z) : Rt X RX4 cX4_wordBy 8 (rmA 1 21) .ireturn 0 [(0, .ref 17), (1, .int v1), (2, .int v2), (3, .int v3), (4, .int v4)] [] σ (some (.int z.1)) z.2 := by
  unfold fX4_wordBy at h
  refine Rt.iload_n 2 dX4_wordBy_0 rfl ?_
  refine Rt.bipush 24 dX4_wordBy_1 (by decide) ?_
  refine Rt.icmp_ne 9 dX4_wordBy_3 (by decide) (fun c1 => ?_) (fun c1 => ?_)
  · replace h := (if_neg c1).symm.trans h
    refine Rt.iload_n 2 dX4_wordBy_9 rfl ?_
    refine Rt.bipush 6 dX4_wordBy_10 (by decide) ?_
    refine Rt.idiv dX4_wordBy_12 (by decide) ?_
    refine Rt.iload_n 1 dX4_wordBy_13 rfl ?_
    refine Rt.bipush 6 dX4_wordBy_14 (by decide) ?_
    refine Rt.idiv dX4_wordBy_16 (by decide) ?_
    refine Rt.isub dX4_wordBy_17 ?_
    refine Rt.istore [(5, _), (0, _), (1, _), (2, _), (3, _), (4, _)] dX4_wordBy_18 (by decide) rfl ?_
    refine Rt.iload_n 3 dX4_wordBy_20 rfl ?_
    refine Rt.bipush 6 dX4_wordBy_21 (by decide) ?_
    refine Rt.rem dX4_wordBy_23 (by decide) ?_
    refine Rt.iload_n 2 dX4_wordBy_24 rfl ?_
    refine Rt.bipush 6 dX4_wordBy_25 (by decide) ?_
    refine Rt.rem dX4_wordBy_27 (by decide) ?_
    refine Rt.isub dX4_wordBy_28 ?_
    refine Rt.istore [(6, _), (5, _), (0, _), (1, _), (2, _), (3, _), (4, _)] dX4_wordBy_29 (by decide) rfl ?_
    refine Rt.iload 1 dX4_wordBy_31 rfl ?_
    refine Rt.if_eq 64 dX4_wordBy_33 (by decide) (fun c2 => ?_) (fun c2 => ?_)
    · replace h := (if_pos c2).symm.trans h
      refine Rt.iload 0 dX4_wordBy_64 rfl ?_
      refine Rt.if_ne 72 dX4_wordBy_66 (by decide) (fun c3 => ?_) (fun c3 => ?_)
      · replace h := (if_neg c3).symm.trans h
        refine Rt.iload 0 dX4_wordBy_72 rfl ?_
        refine Rt.if_ge 81 dX4_wordBy_74 (by decide) (fun c4 => ?_) (fun c4 => ?_)
        · replace h := (if_pos c4).symm.trans h
          refine Rt.iconst 0 dX4_wordBy_81 (by decide) ?_
          refine Rt.pick [5, 6, 0] rfl ?_
          exact wfX4_wordBy_b82 X v3 v4 ((irm v2 (6 : Int32)) - (irm v1 (6 : Int32))) (0 : Int32) _ z h
        · replace h := (if_neg c4).symm.trans h
          refine Rt.iconst 1 dX4_wordBy_77 (by decide) ?_
          refine Rt.goto 82 dX4_wordBy_78 (by decide) ?_
          refine Rt.pick [5, 6, 0] rfl ?_
          exact wfX4_wordBy_b82 X v3 v4 ((irm v2 (6 : Int32)) - (irm v1 (6 : Int32))) (1 : Int32) _ z h
      · replace h := (if_pos c3).symm.trans h
        refine Rt.bipush 8 dX4_wordBy_69 (by decide) ?_
        obtain rfl := Option.some.inj h
        exact Rt.ret (v := some (.int (8 : Int32))) dX4_wordBy_71 rfl rfl rfl
    · replace h := (if_neg c2).symm.trans h
      refine Rt.iload 1 dX4_wordBy_36 rfl ?_
      refine Rt.iconst 0 dX4_wordBy_38 (by decide) ?_
      obtain ⟨q2, e2, h⟩ := bnd h
      refine Rt.cS (mfX4_apart ((v2 / (6 : Int32)) - (v1 / (6 : Int32))) (0 : Int32) _ q2 e2) lkX4_48 rfl ⟨Nat.le_of_ble_eq_true rfl, Nat.le_of_ble_eq_true rfl⟩ (Nat.le_of_ble_eq_true rfl) rfl dX4_wordBy_39 ?_
      refine Rt.iload 6 dX4_wordBy_42 rfl ?_
      refine Rt.icmp_lt 51 dX4_wordBy_44 (by decide) (fun c9 => ?_) (fun c9 => ?_)
      · replace h := (if_pos c9).symm.trans h
        refine Rt.iconst 0 dX4_wordBy_51 (by decide) ?_
        refine Rt.pick [1] rfl ?_
        exact wfX4_wordBy_b52 X ((v2 / (6 : Int32)) - (v1 / (6 : Int32))) (0 : Int32) _ z h
      · replace h := (if_neg c9).symm.trans h
        refine Rt.iconst 4 dX4_wordBy_47 (by decide) ?_
        refine Rt.goto 52 dX4_wordBy_48 (by decide) ?_
        refine Rt.pick [1] rfl ?_
        exact wfX4_wordBy_b52 X ((v2 / (6 : Int32)) - (v1 / (6 : Int32))) (4 : Int32) _ z h
  · replace h := (if_pos c1).symm.trans h
    refine Rt.bipush 9 dX4_wordBy_6 (by decide) ?_
    obtain rfl := Option.some.inj h
    exact Rt.ret (v := some (.int (9 : Int32))) dX4_wordBy_8 rfl rfl rfl
set_option maxRecDepth 100000 in
set_option maxHeartbeats 4000000 in
theorem mfX4_wordBy (v1 : Int32) (v2 : Int32) (v3 : Int32) (v4 : Int32) (σ : Sto) (z : Int32 × Sto) (h : fX4_wordBy v1 v2 v3 v4 σ = some z) : AM yX4_wordBy cX4_wordBy 8 (some .int) 1 21 [.ref 17, .int v1, .int v2, .int v3, .int v4] σ (some (.int z.1)) z.2 := AM.int rfl (Nat.le_of_ble_eq_true rfl) (fun X => wfX4_wordBy X v1 v2 v3 v4 σ z h)
