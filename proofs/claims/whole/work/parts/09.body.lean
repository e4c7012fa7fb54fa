-- fX3_isNoCell
def fX3_isNoCell_e (v0 : Int32) (σ : Sto) : Option (Int32 × Sto) := if v0 < 0 then (some ((1 : Int32), σ)) else (if v0 < (24 : Int32) then (some ((0 : Int32), σ)) else (some ((1 : Int32), σ)))
set_option maxRecDepth 100000 in
set_option maxHeartbeats 4000000 in
theorem wfX3_isNoCell_e (X : Scr) (v0 : Int32) (σ : Sto) (z : Int32 × Sto) (h : fX3_isNoCell_e v0 σ = some z) : Rt X RX3 cX3_isNoCell 1 (rmA 0 0) .ireturn 0 [(0, .int v0)] [] σ (some (.int z.1)) z.2 := by
  unfold fX3_isNoCell_e at h
  refine Rt.iload_n 0 dX3_isNoCell_0 rfl ?_
  refine Rt.if_lt 10 dX3_isNoCell_1 (by decide) (fun c1 => ?_) (fun c1 => ?_)
  · replace h := (if_pos c1).symm.trans h
    refine Rt.iconst 1 dX3_isNoCell_10 (by decide) ?_
    refine Rt.goto 15 dX3_isNoCell_11 (by decide) ?_
    cases h
    exact Rt.ret (v := some (.int (1 : Int32))) dX3_isNoCell_15 rfl rfl rfl
  · replace h := (if_neg c1).symm.trans h
    refine Rt.iload_n 0 dX3_isNoCell_4 rfl ?_
    refine Rt.bipush 24 dX3_isNoCell_5 (by decide) ?_
    refine Rt.icmp_lt 14 dX3_isNoCell_7 (by decide) (fun c2 => ?_) (fun c2 => ?_)
    · replace h := (if_pos c2).symm.trans h
      refine Rt.iconst 0 dX3_isNoCell_14 (by decide) ?_
      cases h
      exact Rt.ret (v := some (.int (0 : Int32))) dX3_isNoCell_15 rfl rfl rfl
    · replace h := (if_neg c2).symm.trans h
      refine Rt.iconst 1 dX3_isNoCell_10 (by decide) ?_
      refine Rt.goto 15 dX3_isNoCell_11 (by decide) ?_
      cases h
      exact Rt.ret (v := some (.int (1 : Int32))) dX3_isNoCell_15 rfl rfl rfl
def fX3_isNoCell (v0 : Int32) (σ : Sto) : Option (Int32 × Sto) := (fX3_isNoCell_e v0 σ).bind chkZ
set_option maxRecDepth 100000 in
set_option maxHeartbeats 4000000 in
theorem mfX3_isNoCell (v0 : Int32) (σ : Sto) (z : Int32 × Sto) (h : fX3_isNoCell v0 σ = some z) : AM yX3_isNoCell cX3_isNoCell 1 (some .boolean) 0 0 [.int v0] σ (some (.int z.1)) z.2 := by
  obtain ⟨hz, h⟩ := chkZ_ok h
  exact AM.bool hz rfl (Nat.le_of_ble_eq_true rfl) (fun X => wfX3_isNoCell_e X v0 σ z h)
-- fX0_soreAt
def fX0_soreAt (k : Nat) (v1 : Int32) (σ : Sto) : Option (Int32 × Sto) := if v1 < 0 then (some ((0 : Int32), σ)) else (if v1 < (24 : Int32) then (if inb v1 24 = true then (some ((σ (k + 1) (v1).toNatClampNeg), σ)) else none) else (some ((0 : Int32), σ)))
set_option maxRecDepth 100000 in
set_option maxHeartbeats 4000000 in
theorem wfX0_soreAt (X : Scr) (k : Nat) (hk : bk k) (v1 : Int32) (σ : Sto) (z : Int32 × Sto) (h : fX0_soreAt k v1 σ = some z) : Rt X RX0 cX0_soreAt 2 (rmA 0 0) .ireturn 0 [(0, .ref k), (1, .int v1)] [] σ (some (.int z.1)) z.2 := by
  unfold fX0_soreAt at h
  refine Rt.iload_n 1 dX0_soreAt_0 rfl ?_
  refine Rt.if_lt 10 dX0_soreAt_1 (by decide) (fun c1 => ?_) (fun c1 => ?_)
  · replace h := (if_pos c1).symm.trans h
    refine Rt.iconst 0 dX0_soreAt_10 (by decide) ?_
    refine Rt.goto 20 dX0_soreAt_11 (by decide) ?_
    cases h
    exact Rt.ret (v := some (.int (0 : Int32))) dX0_soreAt_20 rfl rfl rfl
  · replace h := (if_neg c1).symm.trans h
    refine Rt.iload_n 1 dX0_soreAt_4 rfl ?_
    refine Rt.bipush 24 dX0_soreAt_5 (by decide) ?_
    refine Rt.icmp_lt 14 dX0_soreAt_7 (by decide) (fun c2 => ?_) (fun c2 => ?_)
    · replace h := (if_pos c2).symm.trans h
      refine Rt.aload_n 0 dX0_soreAt_14 rfl ?_
      refine gfX0_9 hk.1 dX0_soreAt_15 ?_
      refine Rt.iload_n 1 dX0_soreAt_18 rfl ?_
      obtain ⟨g3, h⟩ := gd h
      refine Rt.iald hk.2 g3 dX0_soreAt_19 ?_
      cases h
      exact Rt.ret (v := some (.int (σ (k + 1) (v1).toNatClampNeg))) dX0_soreAt_20 rfl rfl rfl
    · replace h := (if_neg c2).symm.trans h
      refine Rt.iconst 0 dX0_soreAt_10 (by decide) ?_
      refine Rt.goto 20 dX0_soreAt_11 (by decide) ?_
      cases h
      exact Rt.ret (v := some (.int (0 : Int32))) dX0_soreAt_20 rfl rfl rfl
set_option maxRecDepth 100000 in
set_option maxHeartbeats 4000000 in
theorem mfX0_soreAt (k : Nat) (hk : bk k) (v1 : Int32) (σ : Sto) (z : Int32 × Sto) (h : fX0_soreAt k v1 σ = some z) : AM yX0_soreAt cX0_soreAt 2 (some .int) 0 0 [.ref k, .int v1] σ (some (.int z.1)) z.2 := AM.int rfl (Nat.le_of_ble_eq_true rfl) (fun X => wfX0_soreAt X k hk v1 σ z h)
-- fX3_refuse
def fX3_refuse (v1 : Int32) (σ : Sto) : Option (Int32 × Sto) := if (-v1) < (1 : Int32) then (some (v1, σ)) else (if (6 : Int32) < (-v1) then (some (v1, σ)) else (if inb (-v1) 7 = true then (if inb (-v1) 7 = true then (some (v1, (upS σ 16 ((-v1)).toNatClampNeg ((σ 16 ((-v1)).toNatClampNeg) + (1 : Int32))))) else none) else none))
set_option maxRecDepth 100000 in
set_option maxHeartbeats 4000000 in
theorem wfX3_refuse (X : Scr) (v1 : Int32) (σ : Sto) (z : Int32 × Sto) (h : fX3_refuse v1 σ = some z) : Rt X RX3 cX3_refuse 3 (rmA 0 0) .ireturn 0 [(0, .ref 0), (1, .int v1)] [] σ (some (.int z.1)) z.2 := by
  unfold fX3_refuse at h
  refine Rt.iload_n 1 dX3_refuse_0 rfl ?_
  refine Rt.ineg dX3_refuse_1 ?_
  refine Rt.istore_n [(2, _), (0, _), (1, _)] dX3_refuse_2 (by decide) rfl ?_
  refine Rt.iload_n 0 dX3_refuse_3 rfl ?_
  refine Rt.iconst 1 dX3_refuse_4 (by decide) ?_
  refine Rt.icmp_lt 24 dX3_refuse_5 (by decide) (fun c1 => ?_) (fun c1 => ?_)
  · replace h := (if_pos c1).symm.trans h
    refine Rt.iload_n 2 dX3_refuse_24 rfl ?_
    cases h
    exact Rt.ret (v := some (.int v1)) dX3_refuse_25 rfl rfl rfl
  · replace h := (if_neg c1).symm.trans h
    refine Rt.iload_n 0 dX3_refuse_8 rfl ?_
    refine Rt.bipush 6 dX3_refuse_9 (by decide) ?_
    refine Rt.icmp_gt 24 dX3_refuse_11 (by decide) (fun c2 => ?_) (fun c2 => ?_)
    · replace h := (if_pos c2).symm.trans h
      refine Rt.iload_n 2 dX3_refuse_24 rfl ?_
      cases h
      exact Rt.ret (v := some (.int v1)) dX3_refuse_25 rfl rfl rfl
    · replace h := (if_neg c2).symm.trans h
      refine Rt.aload_n 1 dX3_refuse_14 rfl ?_
      refine gfX3_46 ly0 dX3_refuse_15 ?_
      refine Rt.iload_n 0 dX3_refuse_18 rfl ?_
      refine Rt.dup2 dX3_refuse_19 rfl rfl ?_
      obtain ⟨g3, h⟩ := gd h
      refine Rt.iald ly16 g3 dX3_refuse_20 ?_
      refine Rt.iconst 1 dX3_refuse_21 (by decide) ?_
      refine Rt.iadd dX3_refuse_22 ?_
      obtain ⟨g4, h⟩ := gd h
      refine Rt.iast ly16 g4 dX3_refuse_23 ?_
      refine Rt.iload_n 2 dX3_refuse_24 rfl ?_
      cases h
      exact Rt.ret (v := some (.int v1)) dX3_refuse_25 rfl rfl rfl
set_option maxRecDepth 100000 in
set_option maxHeartbeats 4000000 in
theorem mfX3_refuse (v1 : Int32) (σ : Sto) (z : Int32 × Sto) (h : fX3_refuse v1 σ = some z) : AM yX3_refuse cX3_refuse 3 (some .int) 0 0 [.ref 0, .int v1] σ (some (.int z.1)) z.2 := AM.int rfl (Nat.le_of_ble_eq_true rfl) (fun X => wfX3_refuse X v1 σ z h)
-- fX3_sore
def fX3_sore (v1 : Int32) (σ : Sto) : Option (Int32 × Sto) := (fX3_isNoCell v1 σ).bind fun q1 => if q1.1 = 0 then ((fX0_soreAt 1 v1 q1.2).bind fun q2 => some (q2.1, q2.2)) else ((fX3_refuse (-1 : Int32) q1.2).bind fun q3 => some (q3.1, q3.2))
set_option maxRecDepth 100000 in
set_option maxHeartbeats 4000000 in
theorem wfX3_sore (X : Scr) (v1 : Int32) (σ : Sto) (z : Int32 × Sto) (h : fX3_sore v1 σ = some z) : Rt X RX3 cX3_sore 2 (rmA 1 22) .ireturn 0 [(0, .ref 0), (1, .int v1)] [] σ (some (.int z.1)) z.2 := by
  unfold fX3_sore at h
  refine Rt.iload_n 1 dX3_sore_0 rfl ?_
  obtain ⟨q1, e1, h⟩ := bnd h
  refine Rt.cS (mfX3_isNoCell v1 _ q1 e1) lkX3_85 rfl ⟨Nat.le_of_ble_eq_true rfl, Nat.le_of_ble_eq_true rfl⟩ (Nat.le_of_ble_eq_true rfl) rfl dX3_sore_1 ?_
  refine Rt.if_eq 15 dX3_sore_4 (by decide) (fun c1 => ?_) (fun c1 => ?_)
  · replace h := (if_pos c1).symm.trans h
    refine Rt.aload_n 0 dX3_sore_15 rfl ?_
    refine gfX3_10 ly0 dX3_sore_16 ?_
    refine Rt.iload_n 1 dX3_sore_19 rfl ?_
    obtain ⟨q2, e2, h⟩ := bnd h
    refine Rt.cVN (mfX0_soreAt 1 bk1 v1 _ q2 e2) lkX3_89 bk1.1 rfl rfl rfl ⟨Nat.le_of_ble_eq_true rfl, Nat.le_of_ble_eq_true rfl⟩ (Nat.le_of_ble_eq_true rfl) rfl dX3_sore_20 ?_
    cases h
    exact Rt.ret (v := some (.int q2.1)) dX3_sore_23 rfl rfl rfl
  · replace h := (if_neg c1).symm.trans h
    refine Rt.aload_n 0 dX3_sore_7 rfl ?_
    refine Rt.iconst (-1) dX3_sore_8 (by decide) ?_
    obtain ⟨q3, e3, h⟩ := bnd h
    refine Rt.cV (mfX3_refuse (-1 : Int32) _ q3 e3) lkX3_57 ly0 rfl rfl rfl ⟨Nat.le_of_ble_eq_true rfl, Nat.le_of_ble_eq_true rfl⟩ (Nat.le_of_ble_eq_true rfl) rfl dX3_sore_9 ?_
    refine Rt.goto 23 dX3_sore_12 (by decide) ?_
    cases h
    exact Rt.ret (v := some (.int q3.1)) dX3_sore_23 rfl rfl rfl
set_option maxRecDepth 100000 in
set_option maxHeartbeats 4000000 in
theorem mfX3_sore (v1 : Int32) (σ : Sto) (z : Int32 × Sto) (h : fX3_sore v1 σ = some z) : AM yX3_sore cX3_sore 2 (some .int) 1 22 [.ref 0, .int v1] σ (some (.int z.1)) z.2 := AM.int rfl (Nat.le_of_ble_eq_true rfl) (fun X => wfX3_sore X v1 σ z h)
-- fX0_awayFromHand
def fX0_awayFromHand_b81 (k : Nat) (σ : Sto) : Option (Int32 × Sto) := some ((σ k 2), σ)
set_option maxRecDepth 100000 in
set_option maxHeartbeats 4000000 in
theorem wfX0_awayFromHand_b81 (X : Scr) (k : Nat) (hk : bk k) (σ : Sto) (z : Int32 × Sto) (h : fX0_awayFromHand_b81 k σ = some z) : Rt X RX0 cX0_awayFromHand 2 (rmA 0 0) .ireturn 81 [(0, .ref k)] [] σ (some (.int z.1)) z.2 := by
  unfold fX0_awayFromHand_b81 at h
  refine Rt.aload_n 0 dX0_awayFromHand_81 rfl ?_
  refine gfX0_19 hk.1 dX0_awayFromHand_82 ?_
  cases h
  exact Rt.ret (v := some (.int (σ k 2))) dX0_awayFromHand_85 rfl rfl rfl
def fX0_awayFromHand_b55 (k : Nat) (v1 : Int32) (σ : Sto) : Option (Int32 × Sto) := if (σ k 2) = ((σ k 3) - (1 : Int32)) then (if v1 ≤ 0 then (fX0_awayFromHand_b81 k σ) else (some (((σ k 2) - (1 : Int32)), σ))) else (fX0_awayFromHand_b81 k σ)
set_option maxRecDepth 100000 in
set_option maxHeartbeats 4000000 in
theorem wfX0_awayFromHand_b55 (X : Scr) (k : Nat) (hk : bk k) (v1 : Int32) (σ : Sto) (z : Int32 × Sto) (h : fX0_awayFromHand_b55 k v1 σ = some z) : Rt X RX0 cX0_awayFromHand 2 (rmA 0 0) .ireturn 55 [(0, .ref k), (1, .int v1)] [] σ (some (.int z.1)) z.2 := by
  unfold fX0_awayFromHand_b55 at h
  refine Rt.aload_n 0 dX0_awayFromHand_55 rfl ?_
  refine gfX0_19 hk.1 dX0_awayFromHand_56 ?_
  refine Rt.aload_n 0 dX0_awayFromHand_59 rfl ?_
  refine gfX0_22 hk.1 dX0_awayFromHand_60 ?_
  refine Rt.iconst 1 dX0_awayFromHand_63 (by decide) ?_
  refine Rt.isub dX0_awayFromHand_64 ?_
  refine Rt.icmp_ne 81 dX0_awayFromHand_65 (by decide) (fun c3 => ?_) (fun c3 => ?_)
  · replace h := (if_neg c3).symm.trans h
    refine Rt.pick [0] rfl ?_
    exact wfX0_awayFromHand_b81 X k hk _ z h
  · replace h := (if_pos c3).symm.trans h
    refine Rt.iload_n 1 dX0_awayFromHand_68 rfl ?_
    refine Rt.if_le 81 dX0_awayFromHand_69 (by decide) (fun c4 => ?_) (fun c4 => ?_)
    · replace h := (if_pos c4).symm.trans h
      refine Rt.pick [0] rfl ?_
      exact wfX0_awayFromHand_b81 X k hk _ z h
    · replace h := (if_neg c4).symm.trans h
      refine Rt.aload_n 0 dX0_awayFromHand_72 rfl ?_
      refine gfX0_19 hk.1 dX0_awayFromHand_73 ?_
      refine Rt.iconst 1 dX0_awayFromHand_76 (by decide) ?_
      refine Rt.isub dX0_awayFromHand_77 ?_
      refine Rt.goto 85 dX0_awayFromHand_78 (by decide) ?_
      cases h
      exact Rt.ret (v := some (.int ((σ k 2) - (1 : Int32)))) dX0_awayFromHand_85 rfl rfl rfl
def fX0_awayFromHand (k : Nat) (σ : Sto) : Option (Int32 × Sto) := if ((σ k 2) / (6 : Int32)) = ((σ k 3) / (6 : Int32)) then (if (σ k 2) = ((σ k 3) + (1 : Int32)) then (if (5 : Int32) ≤ (irm (σ k 2) (6 : Int32)) then (fX0_awayFromHand_b55 k (irm (σ k 2) (6 : Int32)) σ) else (some (((σ k 2) + (1 : Int32)), σ))) else (fX0_awayFromHand_b55 k (irm (σ k 2) (6 : Int32)) σ)) else (some ((σ k 2), σ))
set_option maxRecDepth 100000 in
set_option maxHeartbeats 4000000 in
theorem wfX0_awayFromHand (X : Scr) (k : Nat) (hk : bk k) (σ : Sto) (z : Int32 × Sto) (h : fX0_awayFromHand k σ = some z) : Rt X RX0 cX0_awayFromHand 2 (rmA 0 0) .ireturn 0 [(0, .ref k)] [] σ (some (.int z.1)) z.2 := by
  unfold fX0_awayFromHand at h
  refine Rt.aload_n 0 dX0_awayFromHand_0 rfl ?_
  refine gfX0_19 hk.1 dX0_awayFromHand_1 ?_
  refine Rt.bipush 6 dX0_awayFromHand_4 (by decide) ?_
  refine Rt.idiv dX0_awayFromHand_6 (by decide) ?_
  refine Rt.aload_n 0 dX0_awayFromHand_7 rfl ?_
  refine gfX0_22 hk.1 dX0_awayFromHand_8 ?_
  refine Rt.bipush 6 dX0_awayFromHand_11 (by decide) ?_
  refine Rt.idiv dX0_awayFromHand_13 (by decide) ?_
  refine Rt.icmp_eq 22 dX0_awayFromHand_14 (by decide) (fun c1 => ?_) (fun c1 => ?_)
  · replace h := (if_pos c1).symm.trans h
    refine Rt.aload_n 0 dX0_awayFromHand_22 rfl ?_
    refine gfX0_19 hk.1 dX0_awayFromHand_23 ?_
    refine Rt.bipush 6 dX0_awayFromHand_26 (by decide) ?_
    refine Rt.rem dX0_awayFromHand_28 (by decide) ?_
    refine Rt.istore_n [(1, _), (0, _)] dX0_awayFromHand_29 (by decide) rfl ?_
    refine Rt.aload_n 1 dX0_awayFromHand_30 rfl ?_
    refine gfX0_19 hk.1 dX0_awayFromHand_31 ?_
    refine Rt.aload_n 1 dX0_awayFromHand_34 rfl ?_
    refine gfX0_22 hk.1 dX0_awayFromHand_35 ?_
    refine Rt.iconst 1 dX0_awayFromHand_38 (by decide) ?_
    refine Rt.iadd dX0_awayFromHand_39 ?_
    refine Rt.icmp_ne 55 dX0_awayFromHand_40 (by decide) (fun c2 => ?_) (fun c2 => ?_)
    · replace h := (if_neg c2).symm.trans h
      refine Rt.pick [1, 0] rfl ?_
      exact wfX0_awayFromHand_b55 X k hk (irm (σ k 2) (6 : Int32)) _ z h
    · replace h := (if_pos c2).symm.trans h
      refine Rt.iload_n 0 dX0_awayFromHand_43 rfl ?_
      refine Rt.iconst 5 dX0_awayFromHand_44 (by decide) ?_
      refine Rt.icmp_ge 55 dX0_awayFromHand_45 (by decide) (fun c5 => ?_) (fun c5 => ?_)
      · replace h := (if_pos c5).symm.trans h
        refine Rt.pick [1, 0] rfl ?_
        exact wfX0_awayFromHand_b55 X k hk (irm (σ k 2) (6 : Int32)) _ z h
      · replace h := (if_neg c5).symm.trans h
        refine Rt.aload_n 1 dX0_awayFromHand_48 rfl ?_
        refine gfX0_19 hk.1 dX0_awayFromHand_49 ?_
        refine Rt.iconst 1 dX0_awayFromHand_52 (by decide) ?_
        refine Rt.iadd dX0_awayFromHand_53 ?_
        cases h
        exact Rt.ret (v := some (.int ((σ k 2) + (1 : Int32)))) dX0_awayFromHand_54 rfl rfl rfl
  · replace h := (if_neg c1).symm.trans h
    refine Rt.aload_n 0 dX0_awayFromHand_17 rfl ?_
    refine gfX0_19 hk.1 dX0_awayFromHand_18 ?_
    cases h
    exact Rt.ret (v := some (.int (σ k 2))) dX0_awayFromHand_21 rfl rfl rfl
set_option maxRecDepth 100000 in
set_option maxHeartbeats 4000000 in
theorem mfX0_awayFromHand (k : Nat) (hk : bk k) (σ : Sto) (z : Int32 × Sto) (h : fX0_awayFromHand k σ = some z) : AM yX0_awayFromHand cX0_awayFromHand 2 (some .int) 0 0 [.ref k] σ (some (.int z.1)) z.2 := AM.int rfl (Nat.le_of_ble_eq_true rfl) (fun X => wfX0_awayFromHand X k hk σ z h)
-- fJ6_compare_7cf53
def fJ6_compare_7cf53 (v0 : Int32) (v1 : Int32) (σ : Sto) : Option (Int32 × Sto) := if v1 ≤ v0 then (if v0 = v1 then (some ((0 : Int32), σ)) else (some ((1 : Int32), σ))) else (some ((-1 : Int32), σ))
set_option maxRecDepth 100000 in
set_option maxHeartbeats 4000000 in
theorem wfJ6_compare_7cf53 (X : Scr) (v0 : Int32) (v1 : Int32) (σ : Sto) (z : Int32 × Sto) (h : fJ6_compare_7cf53 v0 v1 σ = some z) : Rt X RJ6 cJ6_compare_7cf53 2 (rmA 0 0) .ireturn 0 [(0, .int v0), (1, .int v1)] [] σ (some (.int z.1)) z.2 := by
  unfold fJ6_compare_7cf53 at h
  refine Rt.iload_n 0 dJ6_compare_7cf53_0 rfl ?_
  refine Rt.iload_n 1 dJ6_compare_7cf53_1 rfl ?_
  refine Rt.icmp_ge 9 dJ6_compare_7cf53_2 (by decide) (fun c1 => ?_) (fun c1 => ?_)
  · replace h := (if_pos c1).symm.trans h
    refine Rt.iload_n 0 dJ6_compare_7cf53_9 rfl ?_
    refine Rt.iload_n 1 dJ6_compare_7cf53_10 rfl ?_
    refine Rt.icmp_ne 18 dJ6_compare_7cf53_11 (by decide) (fun c2 => ?_) (fun c2 => ?_)
    · replace h := (if_neg c2).symm.trans h
      refine Rt.iconst 1 dJ6_compare_7cf53_18 (by decide) ?_
      cases h
      exact Rt.ret (v := some (.int (1 : Int32))) dJ6_compare_7cf53_19 rfl rfl rfl
    · replace h := (if_pos c2).symm.trans h
      refine Rt.iconst 0 dJ6_compare_7cf53_14 (by decide) ?_
      refine Rt.goto 19 dJ6_compare_7cf53_15 (by decide) ?_
      cases h
      exact Rt.ret (v := some (.int (0 : Int32))) dJ6_compare_7cf53_19 rfl rfl rfl
  · replace h := (if_neg c1).symm.trans h
    refine Rt.iconst (-1) dJ6_compare_7cf53_5 (by decide) ?_
    refine Rt.goto 19 dJ6_compare_7cf53_6 (by decide) ?_
    cases h
    exact Rt.ret (v := some (.int (-1 : Int32))) dJ6_compare_7cf53_19 rfl rfl rfl
set_option maxRecDepth 100000 in
set_option maxHeartbeats 4000000 in
theorem mfJ6_compare_7cf53 (v0 : Int32) (v1 : Int32) (σ : Sto) (z : Int32 × Sto) (h : fJ6_compare_7cf53 v0 v1 σ = some z) : AM yJ6_compare_7cf53 cJ6_compare_7cf53 2 (some .int) 0 0 [.int v0, .int v1] σ (some (.int z.1)) z.2 := AM.int rfl (Nat.le_of_ble_eq_true rfl) (fun X => wfJ6_compare_7cf53 X v0 v1 σ z h)
-- fX0_whenBeside
def fX0_whenBeside_b103 (k : Nat) (s0 : Int32) (σ : Sto) : Option (Int32 × Sto) := if (σ k 1) = (3 : Int32) then (if s0 = (σ k 2) then ((fX0_soreAt k ((((((σ k 2) / (6 : Int32)) * (6 : Int32)) + (6 : Int32)) - (1 : Int32)) - (irm (σ k 2) (6 : Int32))) σ).bind fun q2 => if q2.1 = 0 then (some (((((((σ k 2) / (6 : Int32)) * (6 : Int32)) + (6 : Int32)) - (1 : Int32)) - (irm (σ k 2) (6 : Int32))), q2.2)) else (some ((q2.2 k 2), q2.2))) else (some (s0, σ))) else (some (s0, σ))
set_option maxRecDepth 100000 in
set_option maxHeartbeats 4000000 in
theorem wfX0_whenBeside_b103 (X : Scr) (k : Nat) (hk : bk k) (s0 : Int32) (σ : Sto) (z : Int32 × Sto) (h : fX0_whenBeside_b103 k s0 σ = some z) : Rt X RX0 cX0_whenBeside 4 (rmA 1 21) .ireturn 103 [(0, .ref k)] [.int s0] σ (some (.int z.1)) z.2 := by
  unfold fX0_whenBeside_b103 at h
  refine Rt.istore_n [(2, _), (0, _)] dX0_whenBeside_103 (by decide) rfl ?_
  refine Rt.aload_n 1 dX0_whenBeside_104 rfl ?_
  refine gfX0_15 hk.1 dX0_whenBeside_105 ?_
  refine Rt.iconst 3 dX0_whenBeside_108 (by decide) ?_
  refine Rt.icmp_ne 120 dX0_whenBeside_109 (by decide) (fun c6 => ?_) (fun c6 => ?_)
  · replace h := (if_neg c6).symm.trans h
    refine Rt.iload_n 0 dX0_whenBeside_120 rfl ?_
    cases h
    exact Rt.ret (v := some (.int s0)) dX0_whenBeside_121 rfl rfl rfl
  · replace h := (if_pos c6).symm.trans h
    refine Rt.iload_n 0 dX0_whenBeside_112 rfl ?_
    refine Rt.aload_n 1 dX0_whenBeside_113 rfl ?_
    refine gfX0_19 hk.1 dX0_whenBeside_114 ?_
    refine Rt.icmp_eq 122 dX0_whenBeside_117 (by decide) (fun c7 => ?_) (fun c7 => ?_)
    · replace h := (if_pos c7).symm.trans h
      refine Rt.aload_n 1 dX0_whenBeside_122 rfl ?_
      refine gfX0_19 hk.1 dX0_whenBeside_123 ?_
      refine Rt.bipush 6 dX0_whenBeside_126 (by decide) ?_
      refine Rt.idiv dX0_whenBeside_128 (by decide) ?_
      refine Rt.bipush 6 dX0_whenBeside_129 (by decide) ?_
      refine Rt.imul dX0_whenBeside_131 ?_
      refine Rt.bipush 6 dX0_whenBeside_132 (by decide) ?_
      refine Rt.iadd dX0_whenBeside_134 ?_
      refine Rt.iconst 1 dX0_whenBeside_135 (by decide) ?_
      refine Rt.isub dX0_whenBeside_136 ?_
      refine Rt.aload_n 1 dX0_whenBeside_137 rfl ?_
      refine gfX0_19 hk.1 dX0_whenBeside_138 ?_
      refine Rt.bipush 6 dX0_whenBeside_141 (by decide) ?_
      refine Rt.rem dX0_whenBeside_143 (by decide) ?_
      refine Rt.isub dX0_whenBeside_144 ?_
      refine Rt.istore_n [(3, _), (2, _), (0, _)] dX0_whenBeside_145 (by decide) rfl ?_
      refine Rt.aload_n 2 dX0_whenBeside_146 rfl ?_
      refine Rt.iload_n 0 dX0_whenBeside_147 rfl ?_
      obtain ⟨q2, e2, h⟩ := bnd h
      refine Rt.cV (mfX0_soreAt k hk ((((((σ k 2) / (6 : Int32)) * (6 : Int32)) + (6 : Int32)) - (1 : Int32)) - (irm (σ k 2) (6 : Int32))) _ q2 e2) lkX0_66 hk.1 rfl rfl rfl ⟨Nat.le_of_ble_eq_true rfl, Nat.le_of_ble_eq_true rfl⟩ (Nat.le_of_ble_eq_true rfl) rfl dX0_whenBeside_148 ?_
      refine Rt.if_ne 158 dX0_whenBeside_151 (by decide) (fun c8 => ?_) (fun c8 => ?_)
      · replace h := (if_neg c8).symm.trans h
        refine Rt.aload_n 2 dX0_whenBeside_158 rfl ?_
        refine gfX0_19 hk.1 dX0_whenBeside_159 ?_
        cases h
        exact Rt.ret (v := some (.int (q2.2 k 2))) dX0_whenBeside_162 rfl rfl rfl
      · replace h := (if_pos c8).symm.trans h
        refine Rt.iload_n 0 dX0_whenBeside_154 rfl ?_
        refine Rt.goto 162 dX0_whenBeside_155 (by decide) ?_
        cases h
        exact Rt.ret (v := some (.int ((((((σ k 2) / (6 : Int32)) * (6 : Int32)) + (6 : Int32)) - (1 : Int32)) - (irm (σ k 2) (6 : Int32))))) dX0_whenBeside_162 rfl rfl rfl
    · replace h := (if_neg c7).symm.trans h
      refine Rt.iload_n 0 dX0_whenBeside_120 rfl ?_
      cases h
      exact Rt.ret (v := some (.int s0)) dX0_whenBeside_121 rfl rfl rfl
def fX0_whenBeside_b84 (k : Nat) (s0 : Int32) (σ : Sto) : Option (Int32 × Sto) := if s0 = 0 then ((fX0_awayFromHand k σ).bind fun q1 => fX0_whenBeside_b103 k q1.1 q1.2) else (fX0_whenBeside_b103 k ((σ k 2) + (6 : Int32)) σ)
set_option maxRecDepth 100000 in
set_option maxHeartbeats 4000000 in
theorem wfX0_whenBeside_b84 (X : Scr) (k : Nat) (hk : bk k) (s0 : Int32) (σ : Sto) (z : Int32 × Sto) (h : fX0_whenBeside_b84 k s0 σ = some z) : Rt X RX0 cX0_whenBeside 4 (rmA 1 21) .ireturn 84 [(0, .ref k)] [.int s0] σ (some (.int z.1)) z.2 := by
  unfold fX0_whenBeside_b84 at h
  refine Rt.istore_n [(1, _), (0, _)] dX0_whenBeside_84 (by decide) rfl ?_
  refine Rt.iload_n 0 dX0_whenBeside_85 rfl ?_
  refine Rt.if_eq 99 dX0_whenBeside_86 (by decide) (fun c5 => ?_) (fun c5 => ?_)
  · replace h := (if_pos c5).symm.trans h
    refine Rt.aload_n 1 dX0_whenBeside_99 rfl ?_
    obtain ⟨q1, e1, h⟩ := bnd h
    refine Rt.cV (mfX0_awayFromHand k hk _ q1 e1) lkX0_75 hk.1 rfl rfl rfl ⟨Nat.le_of_ble_eq_true rfl, Nat.le_of_ble_eq_true rfl⟩ (Nat.le_of_ble_eq_true rfl) rfl dX0_whenBeside_100 ?_
    refine Rt.pick [1] rfl ?_
    exact wfX0_whenBeside_b103 X k hk q1.1 _ z h
  · replace h := (if_neg c5).symm.trans h
    refine Rt.aload_n 1 dX0_whenBeside_89 rfl ?_
    refine gfX0_19 hk.1 dX0_whenBeside_90 ?_
    refine Rt.bipush 6 dX0_whenBeside_93 (by decide) ?_
    refine Rt.iadd dX0_whenBeside_95 ?_
    refine Rt.goto 103 dX0_whenBeside_96 (by decide) ?_
    refine Rt.pick [1] rfl ?_
    exact wfX0_whenBeside_b103 X k hk ((σ k 2) + (6 : Int32)) _ z h
def fX0_whenBeside_b83 (k : Nat) (σ : Sto) : Option (Int32 × Sto) := fX0_whenBeside_b84 k (0 : Int32) σ
set_option maxRecDepth 100000 in
set_option maxHeartbeats 4000000 in
theorem wfX0_whenBeside_b83 (X : Scr) (k : Nat) (hk : bk k) (σ : Sto) (z : Int32 × Sto) (h : fX0_whenBeside_b83 k σ = some z) : Rt X RX0 cX0_whenBeside 4 (rmA 1 21) .ireturn 83 [(0, .ref k)] [] σ (some (.int z.1)) z.2 := by
  unfold fX0_whenBeside_b83 at h
  refine Rt.iconst 0 dX0_whenBeside_83 (by decide) ?_
  exact wfX0_whenBeside_b84 X k hk (0 : Int32) _ z h
def fX0_whenBeside (k : Nat) (σ : Sto) : Option (Int32 × Sto) := if (σ k 1) = (5 : Int32) then (some ((24 : Int32), σ)) else (if (σ k 1) = (2 : Int32) then (some ((σ k 2), σ)) else (if (σ k 1) = (4 : Int32) then ((fJ6_compare_7cf53 (σ k 8) (irm (σ k 2) (6 : Int32)) σ).bind fun q3 => some (((σ k 2) + q3.1), q3.2)) else (if (σ k 1) = 0 then (fX0_whenBeside_b83 k σ) else (if (irm (σ k 4) (3 : Int32)) = 0 then (if (3 : Int32) ≤ ((σ k 2) / (6 : Int32)) then (fX0_whenBeside_b83 k σ) else (fX0_whenBeside_b84 k (1 : Int32) σ)) else (fX0_whenBeside_b83 k σ)))))
set_option maxRecDepth 100000 in
set_option maxHeartbeats 4000000 in
theorem wfX0_whenBeside (X : Scr) (k : Nat) (hk : bk k) (σ : Sto) (z : Int32 × Sto) (h : fX0_whenBeside k σ = some z) : Rt X RX0 cX0_whenBeside 4 (rmA 1 21) .ireturn 0 [(0, .ref k)] [] σ (some (.int z.1)) z.2 := by
  unfold fX0_whenBeside at h
  refine Rt.aload_n 0 dX0_whenBeside_0 rfl ?_
  refine gfX0_15 hk.1 dX0_whenBeside_1 ?_
  refine Rt.iconst 5 dX0_whenBeside_4 (by decide) ?_
  refine Rt.icmp_ne 11 dX0_whenBeside_5 (by decide) (fun c1 => ?_) (fun c1 => ?_)
  · replace h := (if_neg c1).symm.trans h
    refine Rt.aload_n 0 dX0_whenBeside_11 rfl ?_
    refine gfX0_15 hk.1 dX0_whenBeside_12 ?_
    refine Rt.iconst 2 dX0_whenBeside_15 (by decide) ?_
    refine Rt.icmp_ne 24 dX0_whenBeside_16 (by decide) (fun c2 => ?_) (fun c2 => ?_)
    · replace h := (if_neg c2).symm.trans h
      refine Rt.aload_n 0 dX0_whenBeside_24 rfl ?_
      refine gfX0_15 hk.1 dX0_whenBeside_25 ?_
      refine Rt.iconst 4 dX0_whenBeside_28 (by decide) ?_
      refine Rt.icmp_ne 52 dX0_whenBeside_29 (by decide) (fun c3 => ?_) (fun c3 => ?_)
      · replace h := (if_neg c3).symm.trans h
        refine Rt.aload_n 0 dX0_whenBeside_52 rfl ?_
        refine gfX0_15 hk.1 dX0_whenBeside_53 ?_
        refine Rt.if_eq 83 dX0_whenBeside_56 (by decide) (fun c4 => ?_) (fun c4 => ?_)
        · replace h := (if_pos c4).symm.trans h
          exact wfX0_whenBeside_b83 X k hk _ z h
        · replace h := (if_neg c4).symm.trans h
          refine Rt.aload_n 0 dX0_whenBeside_59 rfl ?_
          refine gfX0_25 hk.1 dX0_whenBeside_60 ?_
          refine Rt.iconst 3 dX0_whenBeside_63 (by decide) ?_
          refine Rt.rem dX0_whenBeside_64 (by decide) ?_
          refine Rt.if_ne 83 dX0_whenBeside_65 (by decide) (fun c9 => ?_) (fun c9 => ?_)
          · replace h := (if_neg c9).symm.trans h
            exact wfX0_whenBeside_b83 X k hk _ z h
          · replace h := (if_pos c9).symm.trans h
            refine Rt.aload_n 0 dX0_whenBeside_68 rfl ?_
            refine gfX0_19 hk.1 dX0_whenBeside_69 ?_
            refine Rt.bipush 6 dX0_whenBeside_72 (by decide) ?_
            refine Rt.idiv dX0_whenBeside_74 (by decide) ?_
            refine Rt.iconst 3 dX0_whenBeside_75 (by decide) ?_
            refine Rt.icmp_ge 83 dX0_whenBeside_76 (by decide) (fun c10 => ?_) (fun c10 => ?_)
            · replace h := (if_pos c10).symm.trans h
              exact wfX0_whenBeside_b83 X k hk _ z h
            · replace h := (if_neg c10).symm.trans h
              refine Rt.iconst 1 dX0_whenBeside_79 (by decide) ?_
              refine Rt.goto 84 dX0_whenBeside_80 (by decide) ?_
              exact wfX0_whenBeside_b84 X k hk (1 : Int32) _ z h
      · replace h := (if_pos c3).symm.trans h
        refine Rt.aload_n 0 dX0_whenBeside_32 rfl ?_
        refine gfX0_19 hk.1 dX0_whenBeside_33 ?_
        refine Rt.aload_n 0 dX0_whenBeside_36 rfl ?_
        refine gfX0_37 hk.1 dX0_whenBeside_37 ?_
        refine Rt.aload_n 0 dX0_whenBeside_40 rfl ?_
        refine gfX0_19 hk.1 dX0_whenBeside_41 ?_
        refine Rt.bipush 6 dX0_whenBeside_44 (by decide) ?_
        refine Rt.rem dX0_whenBeside_46 (by decide) ?_
        obtain ⟨q3, e3, h⟩ := bnd h
        refine Rt.cS (mfJ6_compare_7cf53 (σ k 8) (irm (σ k 2) (6 : Int32)) _ q3 e3) lkX0_70 rfl ⟨Nat.le_of_ble_eq_true rfl, Nat.le_of_ble_eq_true rfl⟩ (Nat.le_of_ble_eq_true rfl) rfl dX0_whenBeside_47 ?_
        refine Rt.iadd dX0_whenBeside_50 ?_
        cases h
        exact Rt.ret (v := some (.int ((σ k 2) + q3.1))) dX0_whenBeside_51 rfl rfl rfl
    · replace h := (if_pos c2).symm.trans h
      refine Rt.aload_n 0 dX0_whenBeside_19 rfl ?_
      refine gfX0_19 hk.1 dX0_whenBeside_20 ?_
      cases h
      exact Rt.ret (v := some (.int (σ k 2))) dX0_whenBeside_23 rfl rfl rfl
  · replace h := (if_pos c1).symm.trans h
    refine Rt.bipush 24 dX0_whenBeside_8 (by decide) ?_
    cases h
    exact Rt.ret (v := some (.int (24 : Int32))) dX0_whenBeside_10 rfl rfl rfl
set_option maxRecDepth 100000 in
set_option maxHeartbeats 4000000 in
theorem mfX0_whenBeside (k : Nat) (hk : bk k) (σ : Sto) (z : Int32 × Sto) (h : fX0_whenBeside k σ = some z) : AM yX0_whenBeside cX0_whenBeside 4 (some .int) 1 21 [.ref k] σ (some (.int z.1)) z.2 := AM.int rfl (Nat.le_of_ble_eq_true rfl) (fun X => wfX0_whenBeside X k hk σ z h)
-- fX0_whenStruck
def fX0_whenStruck (k : Nat) (σ : Sto) : Option (Int32 × Sto) := if (σ k 1) = 3 then (some ((irm ((σ k 2) + (7 : Int32)) (24 : Int32)), σ)) else (if (σ k 1) = 4 then ((fX0_soreAt k (σ k 2) σ).bind fun q1 => if q1.1 < (3 : Int32) then (some ((q1.2 k 2), q1.2)) else (some ((24 : Int32), q1.2))) else (some ((24 : Int32), σ)))
set_option maxRecDepth 100000 in
set_option maxHeartbeats 4000000 in
theorem wfX0_whenStruck (X : Scr) (k : Nat) (hk : bk k) (σ : Sto) (z : Int32 × Sto) (h : fX0_whenStruck k σ = some z) : Rt X RX0 cX0_whenStruck 1 (rmA 1 21) .ireturn 0 [(0, .ref k)] [] σ (some (.int z.1)) z.2 := by
  unfold fX0_whenStruck at h
  refine Rt.aload_n 0 dX0_whenStruck_0 rfl ?_
  refine gfX0_15 hk.1 dX0_whenStruck_1 ?_
  by_cases sw1_0 : (σ k 1) = 3
  · replace h := (if_pos sw1_0).symm.trans h
    refine Rt.lsw 32 dX0_whenStruck_4 (by decide) (by rw [sw1_0] <;> rfl) (by decide) ?_
    refine Rt.aload_n 0 dX0_whenStruck_32 rfl ?_
    refine gfX0_19 hk.1 dX0_whenStruck_33 ?_
    refine Rt.bipush 7 dX0_whenStruck_36 (by decide) ?_
    refine Rt.iadd dX0_whenStruck_38 ?_
    refine Rt.bipush 24 dX0_whenStruck_39 (by decide) ?_
    refine Rt.rem dX0_whenStruck_41 (by decide) ?_
    cases h
    exact Rt.ret (v := some (.int (irm ((σ k 2) + (7 : Int32)) (24 : Int32)))) dX0_whenStruck_42 rfl rfl rfl
  · replace h := (if_neg sw1_0).symm.trans h
    by_cases sw1_1 : (σ k 1) = 4
    · replace h := (if_pos sw1_1).symm.trans h
      refine Rt.lsw 43 dX0_whenStruck_4 (by decide) (by rw [sw1_1] <;> rfl) (by decide) ?_
      refine Rt.aload_n 0 dX0_whenStruck_43 rfl ?_
      refine Rt.aload_n 0 dX0_whenStruck_44 rfl ?_
      refine gfX0_19 hk.1 dX0_whenStruck_45 ?_
      obtain ⟨q1, e1, h⟩ := bnd h
      refine Rt.cV (mfX0_soreAt k hk (σ k 2) _ q1 e1) lkX0_66 hk.1 rfl rfl rfl ⟨Nat.le_of_ble_eq_true rfl, Nat.le_of_ble_eq_true rfl⟩ (Nat.le_of_ble_eq_true rfl) rfl dX0_whenStruck_48 ?_
      refine Rt.iconst 3 dX0_whenStruck_51 (by decide) ?_
      refine Rt.icmp_lt 60 dX0_whenStruck_52 (by decide) (fun c2 => ?_) (fun c2 => ?_)
      · replace h := (if_pos c2).symm.trans h
        refine Rt.aload_n 0 dX0_whenStruck_60 rfl ?_
        refine gfX0_19 hk.1 dX0_whenStruck_61 ?_
        cases h
        exact Rt.ret (v := some (.int (q1.2 k 2))) dX0_whenStruck_64 rfl rfl rfl
      · replace h := (if_neg c2).symm.trans h
        refine Rt.bipush 24 dX0_whenStruck_55 (by decide) ?_
        refine Rt.goto 64 dX0_whenStruck_57 (by decide) ?_
        cases h
        exact Rt.ret (v := some (.int (24 : Int32))) dX0_whenStruck_64 rfl rfl rfl
    · replace h := (if_neg sw1_1).symm.trans h
      have w0 := nti 3 (k := 3) rfl sw1_0
      have w1 := nti 4 (k := 4) rfl sw1_1
      refine Rt.lswOut 65 dX0_whenStruck_4 (by decide) (fun q hq => by simp at hq; rcases hq with e | e <;> subst e <;> first | exact Ne.symm w0 | exact Ne.symm w1) (by decide) ?_
      refine Rt.bipush 24 dX0_whenStruck_65 (by decide) ?_
      cases h
      exact Rt.ret (v := some (.int (24 : Int32))) dX0_whenStruck_67 rfl rfl rfl
set_option maxRecDepth 100000 in
set_option maxHeartbeats 4000000 in
theorem mfX0_whenStruck (k : Nat) (hk : bk k) (σ : Sto) (z : Int32 × Sto) (h : fX0_whenStruck k σ = some z) : AM yX0_whenStruck cX0_whenStruck 1 (some .int) 1 21 [.ref k] σ (some (.int z.1)) z.2 := AM.int rfl (Nat.le_of_ble_eq_true rfl) (fun X => wfX0_whenStruck X k hk σ z h)
-- fX0_strokeOn
def fX0_strokeOn_b64 (k : Nat) (σ : Sto) : Option (Unit × Sto) := some ((), (upS σ k 4 ((σ k 4) + (1 : Int32))))
set_option maxRecDepth 100000 in
set_option maxHeartbeats 4000000 in
theorem wfX0_strokeOn_b64 (X : Scr) (k : Nat) (hk : bk k) (σ : Sto) (z : Unit × Sto) (h : fX0_strokeOn_b64 k σ = some z) : Rt X RX0 cX0_strokeOn 2 (rmA 2 44) .return_ 64 [(0, .ref k)] [] σ none z.2 := by
  unfold fX0_strokeOn_b64 at h
  refine Rt.aload_n 0 dX0_strokeOn_64 rfl ?_
  refine Rt.dup dX0_strokeOn_65 rfl ?_
  refine gfX0_25 hk.1 dX0_strokeOn_66 ?_
  refine Rt.iconst 1 dX0_strokeOn_69 (by decide) ?_
  refine Rt.iadd dX0_strokeOn_70 ?_
  refine pfX0_25 hk.1 dX0_strokeOn_71 ?_
  cases h
  exact Rt.ret (v := none) dX0_strokeOn_74 rfl rfl rfl
def fX0_strokeOn_b61 (k : Nat) (s0 : Int32) (σ : Sto) : Option (Unit × Sto) := fX0_strokeOn_b64 k (upS σ k 2 s0)
set_option maxRecDepth 100000 in
set_option maxHeartbeats 4000000 in
theorem wfX0_strokeOn_b61 (X : Scr) (k : Nat) (hk : bk k) (s0 : Int32) (σ : Sto) (z : Unit × Sto) (h : fX0_strokeOn_b61 k s0 σ = some z) : Rt X RX0 cX0_strokeOn 2 (rmA 2 44) .return_ 61 [(0, .ref k)] [.int s0, .ref k] σ none z.2 := by
  unfold fX0_strokeOn_b61 at h
  refine pfX0_19 hk.1 dX0_strokeOn_61 ?_
  exact wfX0_strokeOn_b64 X k hk _ z h
def fX0_strokeOn_b32 (k : Nat) (v1 : Int32) (σ : Sto) : Option (Unit × Sto) := if (σ k 2) = (24 : Int32) then (fX0_strokeOn_b64 k σ) else (if (σ k 2) = v1 then ((fX0_whenStruck k σ).bind fun q3 => fX0_strokeOn_b61 k q3.1 q3.2) else ((fX0_whenBeside k σ).bind fun q2 => fX0_strokeOn_b61 k q2.1 q2.2))
set_option maxRecDepth 100000 in
set_option maxHeartbeats 4000000 in
theorem wfX0_strokeOn_b32 (X : Scr) (k : Nat) (hk : bk k) (v1 : Int32) (σ : Sto) (z : Unit × Sto) (h : fX0_strokeOn_b32 k v1 σ = some z) : Rt X RX0 cX0_strokeOn 2 (rmA 2 44) .return_ 32 [(0, .ref k), (1, .int v1)] [] σ none z.2 := by
  unfold fX0_strokeOn_b32 at h
  refine Rt.aload_n 0 dX0_strokeOn_32 rfl ?_
  refine gfX0_19 hk.1 dX0_strokeOn_33 ?_
  refine Rt.bipush 24 dX0_strokeOn_36 (by decide) ?_
  refine Rt.icmp_eq 64 dX0_strokeOn_38 (by decide) (fun c4 => ?_) (fun c4 => ?_)
  · replace h := (if_pos c4).symm.trans h
    refine Rt.pick [0] rfl ?_
    exact wfX0_strokeOn_b64 X k hk _ z h
  · replace h := (if_neg c4).symm.trans h
    refine Rt.aload_n 0 dX0_strokeOn_41 rfl ?_
    refine Rt.aload_n 0 dX0_strokeOn_42 rfl ?_
    refine gfX0_19 hk.1 dX0_strokeOn_43 ?_
    refine Rt.iload_n 1 dX0_strokeOn_46 rfl ?_
    refine Rt.icmp_ne 57 dX0_strokeOn_47 (by decide) (fun c5 => ?_) (fun c5 => ?_)
    · replace h := (if_neg c5).symm.trans h
      refine Rt.aload_n 0 dX0_strokeOn_57 rfl ?_
      obtain ⟨q2, e2, h⟩ := bnd h
      refine Rt.cV (mfX0_whenBeside k hk _ q2 e2) lkX0_63 hk.1 rfl rfl rfl ⟨Nat.le_of_ble_eq_true rfl, Nat.le_of_ble_eq_true rfl⟩ (Nat.le_of_ble_eq_true rfl) rfl dX0_strokeOn_58 ?_
      refine Rt.pick [0] rfl ?_
      exact wfX0_strokeOn_b61 X k hk q2.1 _ z h
    · replace h := (if_pos c5).symm.trans h
      refine Rt.aload_n 0 dX0_strokeOn_50 rfl ?_
      obtain ⟨q3, e3, h⟩ := bnd h
      refine Rt.cV (mfX0_whenStruck k hk _ q3 e3) lkX0_59 hk.1 rfl rfl rfl ⟨Nat.le_of_ble_eq_true rfl, Nat.le_of_ble_eq_true rfl⟩ (Nat.le_of_ble_eq_true rfl) rfl dX0_strokeOn_51 ?_
      refine Rt.goto 61 dX0_strokeOn_54 (by decide) ?_
      refine Rt.pick [0] rfl ?_
      exact wfX0_strokeOn_b61 X k hk q3.1 _ z h
def fX0_strokeOn (k : Nat) (v1 : Int32) (σ : Sto) : Option (Unit × Sto) := (fX3_isNoCell v1 σ).bind fun q1 => if q1.1 = 0 then (if inb v1 24 = true then (if inb v1 24 = true then (fX0_strokeOn_b32 k v1 (upS (upS q1.2 (k + 1) (v1).toNatClampNeg (mnI (9 : Int32) ((q1.2 (k + 1) (v1).toNatClampNeg) + (1 : Int32)))) k 3 v1)) else none) else none) else (some ((), q1.2))
set_option maxRecDepth 100000 in
set_option maxHeartbeats 4000000 in
theorem wfX0_strokeOn (X : Scr) (k : Nat) (hk : bk k) (v1 : Int32) (σ : Sto) (z : Unit × Sto) (h : fX0_strokeOn k v1 σ = some z) : Rt X RX0 cX0_strokeOn 2 (rmA 2 44) .return_ 0 [(0, .ref k), (1, .int v1)] [] σ none z.2 := by
  unfold fX0_strokeOn at h
  refine Rt.iload_n 1 dX0_strokeOn_0 rfl ?_
  obtain ⟨q1, e1, h⟩ := bnd h
  refine Rt.cSN (mfX3_isNoCell v1 _ q1 e1) lkX0_46 rfl ⟨Nat.le_of_ble_eq_true rfl, Nat.le_of_ble_eq_true rfl⟩ (Nat.le_of_ble_eq_true rfl) rfl dX0_strokeOn_1 ?_
  refine Rt.if_eq 8 dX0_strokeOn_4 (by decide) (fun c1 => ?_) (fun c1 => ?_)
  · replace h := (if_pos c1).symm.trans h
    refine Rt.aload_n 0 dX0_strokeOn_8 rfl ?_
    refine gfX0_9 hk.1 dX0_strokeOn_9 ?_
    refine Rt.iload_n 1 dX0_strokeOn_12 rfl ?_
    refine Rt.bipush 9 dX0_strokeOn_13 (by decide) ?_
    refine Rt.aload_n 0 dX0_strokeOn_15 rfl ?_
    refine gfX0_9 hk.1 dX0_strokeOn_16 ?_
    refine Rt.iload_n 1 dX0_strokeOn_19 rfl ?_
    obtain ⟨g2, h⟩ := gd h
    refine Rt.iald hk.2 g2 dX0_strokeOn_20 ?_
    refine Rt.iconst 1 dX0_strokeOn_21 (by decide) ?_
    refine Rt.iadd dX0_strokeOn_22 ?_
    refine Rt.mmin mlX0_54 smMmin iniMath cdMmin (Nat.le_of_ble_eq_true rfl) (Nat.le_of_ble_eq_true rfl) dX0_strokeOn_23 ?_
    obtain ⟨g3, h⟩ := gd h
    refine Rt.iast hk.2 g3 dX0_strokeOn_26 ?_
    refine Rt.aload_n 0 dX0_strokeOn_27 rfl ?_
    refine Rt.iload_n 1 dX0_strokeOn_28 rfl ?_
    refine pfX0_22 hk.1 dX0_strokeOn_29 ?_
    exact wfX0_strokeOn_b32 X k hk v1 _ z h
  · replace h := (if_neg c1).symm.trans h
    cases h
    exact Rt.ret (v := none) dX0_strokeOn_7 rfl rfl rfl
set_option maxRecDepth 100000 in
set_option maxHeartbeats 4000000 in
theorem mfX0_strokeOn (k : Nat) (hk : bk k) (v1 : Int32) (σ : Sto) (z : Unit × Sto) (h : fX0_strokeOn k v1 σ = some z) : AM yX0_strokeOn cX0_strokeOn 2 none 2 44 [.ref k, .int v1] σ none z.2 := AM.void rfl (Nat.le_of_ble_eq_true rfl) (fun X => wfX0_strokeOn X k hk v1 σ z h)
