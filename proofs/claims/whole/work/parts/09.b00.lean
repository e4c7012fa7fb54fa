-- fX3_refuse
def fX3_refuse (v1 : Int32) (σ : Sto) : Option (Int32 × Sto) := if (-v1) < (1 : Int32) then (some (v1, σ)) else (if (6 : Int32) < (-v1) then (some (v1, σ)) else (if inb (-v1) 7 = true then (if inb (-v1) 7 = true then (some (v1, (upS σ 16 ((-v1)).toNatClampNeg ((σ 16 ((-v1)).toNatClampNeg) + (1 : Int32))))) else none) else none))
set_option maxRecDepth 100000 in
set_option maxHeartbeats 4000000 in
theorem wfX3_refuse (X : Scr) (v1 : Int32) (σ : Sto) (z : Int32 × Sto) (h : fX3_refuse v1 σ = some z) : Rt X RX3 cX3_refuse 3 (rmA 0 0) .ireturn 0 [(0, .ref 0), (1, .int v1)] [] σ (some (.int z.1)) z.2 := by
  unfold fX3_refuse at h
  refine Rt.iload_n 1 dX3_refuse_0 rfl ?_
  refine Rt.ineg dX3_refuse_1 ?_
  refine Rt.istore_n [(2, _), (0, _), (1, _)] dX3_refuse_2 (by decide) rfl ?_
  refine Rt.iload_n 0 dX3_refuse_3 rfl ?_
  refine Rt.iconst 1 dX3_refuse_4 (by decide) ?_
  refine Rt.icmp_lt 24 dX3_refuse_5 (by decide) (fun c1 => ?_) (fun c1 => ?_)
  · replace h := (if_pos c1).symm.trans h
    refine Rt.iload_n 2 dX3_refuse_24 rfl ?_
    obtain rfl := Option.some.inj h
    exact Rt.ret (v := some (.int v1)) dX3_refuse_25 rfl rfl rfl
  · replace h := (if_neg c1).symm.trans h
    refine Rt.iload_n 0 dX3_refuse_8 rfl ?_
    refine Rt.bipush 6 dX3_refuse_9 (by decide) ?_
    refine Rt.icmp_gt 24 dX3_refuse_11 (by decide) (fun c2 => ?_) (fun c2 => ?_)
    · replace h := (if_pos c2).symm.trans h
      refine Rt.iload_n 2 dX3_refuse_24 rfl ?_
      obtain rfl := Option.some.inj h
      exact Rt.ret (v := some (.int v1)) dX3_refuse_25 rfl rfl rfl
    · replace h := (if_neg c2).symm.trans h
      refine Rt.aload_n 1 dX3_refuse_14 rfl ?_
      refine gfX3_46 ly0 dX3_refuse_15 ?_
      refine Rt.iload_n 0 dX3_refuse_18 rfl ?_
      refine Rt.dup2 dX3_refuse_19 rfl rfl ?_
      obtain ⟨g3, h⟩ := gd h
      refine Rt.iald ly16 g3 dX3_refuse_20 ?_
      refine Rt.iconst 1 dX3_refuse_21 (by decide) ?_
      refine Rt.iadd dX3_refuse_22 ?_
      obtain ⟨g4, h⟩ := gd h
      refine Rt.iast ly16 g4 dX3_refuse_23 ?_
      refine Rt.iload_n 2 dX3_refuse_24 rfl ?_
      obtain rfl := Option.some.inj h
      exact Rt.ret (v := some (.int v1)) dX3_refuse_25 rfl rfl rfl
set_option maxRecDepth 100000 in
set_option maxHeartbeats 4000000 in
theorem mfX3_refuse (v1 : Int32) (σ : Sto) (z : Int32 × Sto) (h : fX3_refuse v1 σ = some z) : AM yX3_refuse cX3_refuse 3 (some .int) 0 0 [.ref 0, .int v1] σ (some (.int z.1)) z.2 := AM.int rfl (Nat.le_of_ble_eq_true rfl) (fun X => wfX3_refuse X v1 σ z h)
-- fX2_add
def fX2_add_b36 (σ : Sto) : Option (Int32 × Sto) := some ((σ 9 1), σ)
set_option maxRecDepth 100000 in
set_option maxHeartbeats 4000000 in
theorem wfX2_add_b36 (X : Scr) (σ : Sto) (z : Int32 × Sto) (h : fX2_add_b36 σ = some z) : Rt X RX2 cX2_add 2 (rmA 0 0) .ireturn 36 [(0, .ref 9)] [] σ (some (.int z.1)) z.2 := by
  unfold fX2_add_b36 at h
  refine Rt.aload_n 0 dX2_add_36 rfl ?_
  refine gfX2_15 ly9 dX2_add_37 ?_
  obtain rfl := Option.some.inj h
  exact Rt.ret (v := some (.int (σ 9 1))) dX2_add_40 rfl rfl rfl
def fX2_add (v1 : Int32) (σ : Sto) : Option (Int32 × Sto) := if (σ 9 1) < 0 then (fX2_add_b36 σ) else (if (80 : Int32) ≤ (σ 9 1) then (fX2_add_b36 σ) else (if inb (σ 9 1) 80 = true then (fX2_add_b36 (upS (upS σ 10 ((σ 9 1)).toNatClampNeg v1) 9 1 (((upS σ 10 ((σ 9 1)).toNatClampNeg v1) 9 1) + (1 : Int32)))) else none))
set_option maxRecDepth 100000 in
set_option maxHeartbeats 4000000 in
theorem wfX2_add (X : Scr) (v1 : Int32) (σ : Sto) (z : Int32 × Sto) (h : fX2_add v1 σ = some z) : Rt X RX2 cX2_add 2 (rmA 0 0) .ireturn 0 [(0, .ref 9), (1, .int v1)] [] σ (some (.int z.1)) z.2 := by
  unfold fX2_add at h
  refine Rt.aload_n 0 dX2_add_0 rfl ?_
  refine gfX2_15 ly9 dX2_add_1 ?_
  refine Rt.if_lt 36 dX2_add_4 (by decide) (fun c1 => ?_) (fun c1 => ?_)
  · replace h := (if_pos c1).symm.trans h
    refine Rt.pick [0] rfl ?_
    exact wfX2_add_b36 X _ z h
  · replace h := (if_neg c1).symm.trans h
    refine Rt.aload_n 0 dX2_add_7 rfl ?_
    refine gfX2_15 ly9 dX2_add_8 ?_
    refine Rt.bipush 80 dX2_add_11 (by decide) ?_
    refine Rt.icmp_ge 36 dX2_add_13 (by decide) (fun c2 => ?_) (fun c2 => ?_)
    · replace h := (if_pos c2).symm.trans h
      refine Rt.pick [0] rfl ?_
      exact wfX2_add_b36 X _ z h
    · replace h := (if_neg c2).symm.trans h
      refine Rt.aload_n 0 dX2_add_16 rfl ?_
      refine gfX2_9 ly9 dX2_add_17 ?_
      refine Rt.aload_n 0 dX2_add_20 rfl ?_
      refine gfX2_15 ly9 dX2_add_21 ?_
      refine Rt.iload_n 1 dX2_add_24 rfl ?_
      obtain ⟨g3, h⟩ := gd h
      refine Rt.iast ly10 g3 dX2_add_25 ?_
      refine Rt.aload_n 0 dX2_add_26 rfl ?_
      refine Rt.dup dX2_add_27 rfl ?_
      refine gfX2_15 ly9 dX2_add_28 ?_
      refine Rt.iconst 1 dX2_add_31 (by decide) ?_
      refine Rt.iadd dX2_add_32 ?_
      refine pfX2_15 ly9 dX2_add_33 ?_
      refine Rt.pick [0] rfl ?_
      exact wfX2_add_b36 X _ z h
set_option maxRecDepth 100000 in
set_option maxHeartbeats 4000000 in
theorem mfX2_add (v1 : Int32) (σ : Sto) (z : Int32 × Sto) (h : fX2_add v1 σ = some z) : AM yX2_add cX2_add 2 (some .int) 0 0 [.ref 9, .int v1] σ (some (.int z.1)) z.2 := AM.int rfl (Nat.le_of_ble_eq_true rfl) (fun X => wfX2_add X v1 σ z h)
-- fX3_letter
def fX3_letter_b30 (σ : Sto) : Option (Int32 × Sto) := (fX3_refuse (-6 : Int32) σ).bind fun q1 => some (q1.1, q1.2)
set_option maxRecDepth 100000 in
set_option maxHeartbeats 4000000 in
theorem wfX3_letter_b30 (X : Scr) (σ : Sto) (z : Int32 × Sto) (h : fX3_letter_b30 σ = some z) : Rt X RX3 cX3_letter 2 (rmA 1 22) .ireturn 30 [(0, .ref 0)] [] σ (some (.int z.1)) z.2 := by
  unfold fX3_letter_b30 at h
  refine Rt.aload_n 0 dX3_letter_30 rfl ?_
  refine Rt.bipush (-6) dX3_letter_31 (by decide) ?_
  obtain ⟨q1, e1, h⟩ := bnd h
  refine Rt.cV (mfX3_refuse (-6 : Int32) _ q1 e1) lkX3_57 ly0 rfl rfl rfl ⟨Nat.le_of_ble_eq_true rfl, Nat.le_of_ble_eq_true rfl⟩ (Nat.le_of_ble_eq_true rfl) rfl dX3_letter_33 ?_
  obtain rfl := Option.some.inj h
  exact Rt.ret (v := some (.int q1.1)) dX3_letter_36 rfl rfl rfl
def fX3_letter (v1 : Int32) (σ : Sto) : Option (Int32 × Sto) := if 0 ≤ v1 then (if (255 : Int32) < v1 then (fX3_letter_b30 σ) else (if (σ 9 1) < (80 : Int32) then ((fX2_add v1 σ).bind fun q2 => some (q2.1, q2.2)) else (fX3_letter_b30 σ))) else ((fX3_refuse (-4 : Int32) σ).bind fun q3 => some (q3.1, q3.2))
set_option maxRecDepth 100000 in
set_option maxHeartbeats 4000000 in
theorem wfX3_letter (X : Scr) (v1 : Int32) (σ : Sto) (z : Int32 × Sto) (h : fX3_letter v1 σ = some z) : Rt X RX3 cX3_letter 2 (rmA 1 22) .ireturn 0 [(0, .ref 0), (1, .int v1)] [] σ (some (.int z.1)) z.2 := by
  unfold fX3_letter at h
  refine Rt.iload_n 1 dX3_letter_0 rfl ?_
  refine Rt.if_ge 11 dX3_letter_1 (by decide) (fun c1 => ?_) (fun c1 => ?_)
  · replace h := (if_pos c1).symm.trans h
    refine Rt.iload_n 1 dX3_letter_11 rfl ?_
    refine Rt.sipush 255 dX3_letter_12 (by decide) ?_
    refine Rt.icmp_gt 30 dX3_letter_15 (by decide) (fun c2 => ?_) (fun c2 => ?_)
    · replace h := (if_pos c2).symm.trans h
      refine Rt.pick [0] rfl ?_
      exact wfX3_letter_b30 X _ z h
    · replace h := (if_neg c2).symm.trans h
      refine Rt.aload_n 0 dX3_letter_18 rfl ?_
      refine gfX3_28 ly0 dX3_letter_19 ?_
      refine gfX3_61 ly9 dX3_letter_22 ?_
      refine Rt.bipush 80 dX3_letter_25 (by decide) ?_
      refine Rt.icmp_lt 37 dX3_letter_27 (by decide) (fun c3 => ?_) (fun c3 => ?_)
      · replace h := (if_pos c3).symm.trans h
        refine Rt.aload_n 0 dX3_letter_37 rfl ?_
        refine gfX3_28 ly0 dX3_letter_38 ?_
        refine Rt.iload_n 1 dX3_letter_41 rfl ?_
        obtain ⟨q2, e2, h⟩ := bnd h
        refine Rt.cVN (mfX2_add v1 _ q2 e2) lkX3_64 ly9 rfl rfl rfl ⟨Nat.le_of_ble_eq_true rfl, Nat.le_of_ble_eq_true rfl⟩ (Nat.le_of_ble_eq_true rfl) rfl dX3_letter_42 ?_
        obtain rfl := Option.some.inj h
        exact Rt.ret (v := some (.int q2.1)) dX3_letter_45 rfl rfl rfl
      · replace h := (if_neg c3).symm.trans h
        refine Rt.pick [0] rfl ?_
        exact wfX3_letter_b30 X _ z h
  · replace h := (if_neg c1).symm.trans h
    refine Rt.aload_n 0 dX3_letter_4 rfl ?_
    refine Rt.bipush (-4) dX3_letter_5 (by decide) ?_
    obtain ⟨q3, e3, h⟩ := bnd h
    refine Rt.cV (mfX3_refuse (-4 : Int32) _ q3 e3) lkX3_57 ly0 rfl rfl rfl ⟨Nat.le_of_ble_eq_true rfl, Nat.le_of_ble_eq_true rfl⟩ (Nat.le_of_ble_eq_true rfl) rfl dX3_letter_7 ?_
    obtain rfl := Option.some.inj h
    exact Rt.ret (v := some (.int q3.1)) dX3_letter_10 rfl rfl rfl
set_option maxRecDepth 100000 in
set_option maxHeartbeats 4000000 in
theorem mfX3_letter (v1 : Int32) (σ : Sto) (z : Int32 × Sto) (h : fX3_letter v1 σ = some z) : AM yX3_letter cX3_letter 2 (some .int) 1 22 [.ref 0, .int v1] σ (some (.int z.1)) z.2 := AM.int rfl (Nat.le_of_ble_eq_true rfl) (fun X => wfX3_letter X v1 σ z h)
-- fX0_take
def fX0_take (k : Nat) (b1 : Nat) (σ : Sto) : Option (Unit × Sto) := some ((), (upS (upS (upS (upS (upS (upS (upS (upS (setS σ (k + 1) (va_cpy (σ (b1 + 1)) (σ (k + 1)) 0 0 24)) k 1 ((setS σ (k + 1) (va_cpy (σ (b1 + 1)) (σ (k + 1)) 0 0 24)) b1 1)) k 2 ((upS (setS σ (k + 1) (va_cpy (σ (b1 + 1)) (σ (k + 1)) 0 0 24)) k 1 ((setS σ (k + 1) (va_cpy (σ (b1 + 1)) (σ (k + 1)) 0 0 24)) b1 1)) b1 2)) k 3 ((upS (upS (setS σ (k + 1) (va_cpy (σ (b1 + 1)) (σ (k + 1)) 0 0 24)) k 1 ((setS σ (k + 1) (va_cpy (σ (b1 + 1)) (σ (k + 1)) 0 0 24)) b1 1)) k 2 ((upS (setS σ (k + 1) (va_cpy (σ (b1 + 1)) (σ (k + 1)) 0 0 24)) k 1 ((setS σ (k + 1) (va_cpy (σ (b1 + 1)) (σ (k + 1)) 0 0 24)) b1 1)) b1 2)) b1 3)) k 4 ((upS (upS (upS (setS σ (k + 1) (va_cpy (σ (b1 + 1)) (σ (k + 1)) 0 0 24)) k 1 ((setS σ (k + 1) (va_cpy (σ (b1 + 1)) (σ (k + 1)) 0 0 24)) b1 1)) k 2 ((upS (setS σ (k + 1) (va_cpy (σ (b1 + 1)) (σ (k + 1)) 0 0 24)) k 1 ((setS σ (k + 1) (va_cpy (σ (b1 + 1)) (σ (k + 1)) 0 0 24)) b1 1)) b1 2)) k 3 ((upS (upS (setS σ (k + 1) (va_cpy (σ (b1 + 1)) (σ (k + 1)) 0 0 24)) k 1 ((setS σ (k + 1) (va_cpy (σ (b1 + 1)) (σ (k + 1)) 0 0 24)) b1 1)) k 2 ((upS (setS σ (k + 1) (va_cpy (σ (b1 + 1)) (σ (k + 1)) 0 0 24)) k 1 ((setS σ (k + 1) (va_cpy (σ (b1 + 1)) (σ (k + 1)) 0 0 24)) b1 1)) b1 2)) b1 3)) b1 4)) k 5 ((upS (upS (upS (upS (setS σ (k + 1) (va_cpy (σ (b1 + 1)) (σ (k + 1)) 0 0 24)) k 1 ((setS σ (k + 1) (va_cpy (σ (b1 + 1)) (σ (k + 1)) 0 0 24)) b1 1)) k 2 ((upS (setS σ (k + 1) (va_cpy (σ (b1 + 1)) (σ (k + 1)) 0 0 24)) k 1 ((setS σ (k + 1) (va_cpy (σ (b1 + 1)) (σ (k + 1)) 0 0 24)) b1 1)) b1 2)) k 3 ((upS (upS (setS σ (k + 1) (va_cpy (σ (b1 + 1)) (σ (k + 1)) 0 0 24)) k 1 ((setS σ (k + 1) (va_cpy (σ (b1 + 1)) (σ (k + 1)) 0 0 24)) b1 1)) k 2 ((upS (setS σ (k + 1) (va_cpy (σ (b1 + 1)) (σ (k + 1)) 0 0 24)) k 1 ((setS σ (k + 1) (va_cpy (σ (b1 + 1)) (σ (k + 1)) 0 0 24)) b1 1)) b1 2)) b1 3)) k 4 ((upS (upS (upS (setS σ (k + 1) (va_cpy (σ (b1 + 1)) (σ (k + 1)) 0 0 24)) k 1 ((setS σ (k + 1) (va_cpy (σ (b1 + 1)) (σ (k + 1)) 0 0 24)) b1 1)) k 2 ((upS (setS σ (k + 1) (va_cpy (σ (b1 + 1)) (σ (k + 1)) 0 0 24)) k 1 ((setS σ (k + 1) (va_cpy (σ (b1 + 1)) (σ (k + 1)) 0 0 24)) b1 1)) b1 2)) k 3 ((upS (upS (setS σ (k + 1) (va_cpy (σ (b1 + 1)) (σ (k + 1)) 0 0 24)) k 1 ((setS σ (k + 1) (va_cpy (σ (b1 + 1)) (σ (k + 1)) 0 0 24)) b1 1)) k 2 ((upS (setS σ (k + 1) (va_cpy (σ (b1 + 1)) (σ (k + 1)) 0 0 24)) k 1 ((setS σ (k + 1) (va_cpy (σ (b1 + 1)) (σ (k + 1)) 0 0 24)) b1 1)) b1 2)) b1 3)) b1 4)) b1 5)) k 6 ((upS (upS (upS (upS (upS (setS σ (k + 1) (va_cpy (σ (b1 + 1)) (σ (k + 1)) 0 0 24)) k 1 ((setS σ (k + 1) (va_cpy (σ (b1 + 1)) (σ (k + 1)) 0 0 24)) b1 1)) k 2 ((upS (setS σ (k + 1) (va_cpy (σ (b1 + 1)) (σ (k + 1)) 0 0 24)) k 1 ((setS σ (k + 1) (va_cpy (σ (b1 + 1)) (σ (k + 1)) 0 0 24)) b1 1)) b1 2)) k 3 ((upS (upS (setS σ (k + 1) (va_cpy (σ (b1 + 1)) (σ (k + 1)) 0 0 24)) k 1 ((setS σ (k + 1) (va_cpy (σ (b1 + 1)) (σ (k + 1)) 0 0 24)) b1 1)) k 2 ((upS (setS σ (k + 1) (va_cpy (σ (b1 + 1)) (σ (k + 1)) 0 0 24)) k 1 ((setS σ (k + 1) (va_cpy (σ (b1 + 1)) (σ (k + 1)) 0 0 24)) b1 1)) b1 2)) b1 3)) k 4 ((upS (upS (upS (setS σ (k + 1) (va_cpy (σ (b1 + 1)) (σ (k + 1)) 0 0 24)) k 1 ((setS σ (k + 1) (va_cpy (σ (b1 + 1)) (σ (k + 1)) 0 0 24)) b1 1)) k 2 ((upS (setS σ (k + 1) (va_cpy (σ (b1 + 1)) (σ (k + 1)) 0 0 24)) k 1 ((setS σ (k + 1) (va_cpy (σ (b1 + 1)) (σ (k + 1)) 0 0 24)) b1 1)) b1 2)) k 3 ((upS (upS (setS σ (k + 1) (va_cpy (σ (b1 + 1)) (σ (k + 1)) 0 0 24)) k 1 ((setS σ (k + 1) (va_cpy (σ (b1 + 1)) (σ (k + 1)) 0 0 24)) b1 1)) k 2 ((upS (setS σ (k + 1) (va_cpy (σ (b1 + 1)) (σ (k + 1)) 0 0 24)) k 1 ((setS σ (k + 1) (va_cpy (σ (b1 + 1)) (σ (k + 1)) 0 0 24)) b1 1)) b1 2)) b1 3)) b1 4)) k 5 ((upS (upS (upS (upS (setS σ (k + 1) (va_cpy (σ (b1 + 1)) (σ (k + 1)) 0 0 24)) k 1 ((setS σ (k + 1) (va_cpy (σ (b1 + 1)) (σ (k + 1)) 0 0 24)) b1 1)) k 2 ((upS (setS σ (k + 1) (va_cpy (σ (b1 + 1)) (σ (k + 1)) 0 0 24)) k 1 ((setS σ (k + 1) (va_cpy (σ (b1 + 1)) (σ (k + 1)) 0 0 24)) b1 1)) b1 2)) k 3 ((upS (upS (setS σ (k + 1) (va_cpy (σ (b1 + 1)) (σ (k + 1)) 0 0 24)) k 1 ((setS σ (k + 1) (va_cpy (σ (b1 + 1)) (σ (k + 1)) 0 0 24)) b1 1)) k 2 ((upS (setS σ (k + 1) (va_cpy (σ (b1 + 1)) (σ (k + 1)) 0 0 24)) k 1 ((setS σ (k + 1) (va_cpy (σ (b1 + 1)) (σ (k + 1)) 0 0 24)) b1 1)) b1 2)) b1 3)) k 4 ((upS (upS (upS (setS σ (k + 1) (va_cpy (σ (b1 + 1)) (σ (k + 1)) 0 0 24)) k 1 ((setS σ (k + 1) (va_cpy (σ (b1 + 1)) (σ (k + 1)) 0 0 24)) b1 1)) k 2 ((upS (setS σ (k + 1) (va_cpy (σ (b1 + 1)) (σ (k + 1)) 0 0 24)) k 1 ((setS σ (k + 1) (va_cpy (σ (b1 + 1)) (σ (k + 1)) 0 0 24)) b1 1)) b1 2)) k 3 ((upS (upS (setS σ (k + 1) (va_cpy (σ (b1 + 1)) (σ (k + 1)) 0 0 24)) k 1 ((setS σ (k + 1) (va_cpy (σ (b1 + 1)) (σ (k + 1)) 0 0 24)) b1 1)) k 2 ((upS (setS σ (k + 1) (va_cpy (σ (b1 + 1)) (σ (k + 1)) 0 0 24)) k 1 ((setS σ (k + 1) (va_cpy (σ (b1 + 1)) (σ (k + 1)) 0 0 24)) b1 1)) b1 2)) b1 3)) b1 4)) b1 5)) b1 6)) k 7 ((upS (upS (upS (upS (upS (upS (setS σ (k + 1) (va_cpy (σ (b1 + 1)) (σ (k + 1)) 0 0 24)) k 1 ((setS σ (k + 1) (va_cpy (σ (b1 + 1)) (σ (k + 1)) 0 0 24)) b1 1)) k 2 ((upS (setS σ (k + 1) (va_cpy (σ (b1 + 1)) (σ (k + 1)) 0 0 24)) k 1 ((setS σ (k + 1) (va_cpy (σ (b1 + 1)) (σ (k + 1)) 0 0 24)) b1 1)) b1 2)) k 3 ((upS (upS (setS σ (k + 1) (va_cpy (σ (b1 + 1)) (σ (k + 1)) 0 0 24)) k 1 ((setS σ (k + 1) (va_cpy (σ (b1 + 1)) (σ (k + 1)) 0 0 24)) b1 1)) k 2 ((upS (setS σ (k + 1) (va_cpy (σ (b1 + 1)) (σ (k + 1)) 0 0 24)) k 1 ((setS σ (k + 1) (va_cpy (σ (b1 + 1)) (σ (k + 1)) 0 0 24)) b1 1)) b1 2)) b1 3)) k 4 ((upS (upS (upS (setS σ (k + 1) (va_cpy (σ (b1 + 1)) (σ (k + 1)) 0 0 24)) k 1 ((setS σ (k + 1) (va_cpy (σ (b1 + 1)) (σ (k + 1)) 0 0 24)) b1 1)) k 2 ((upS (setS σ (k + 1) (va_cpy (σ (b1 + 1)) (σ (k + 1)) 0 0 24)) k 1 ((setS σ (k + 1) (va_cpy (σ (b1 + 1)) (σ (k + 1)) 0 0 24)) b1 1)) b1 2)) k 3 ((upS (upS (setS σ (k + 1) (va_cpy (σ (b1 + 1)) (σ (k + 1)) 0 0 24)) k 1 ((setS σ (k + 1) (va_cpy (σ (b1 + 1)) (σ (k + 1)) 0 0 24)) b1 1)) k 2 ((upS (setS σ (k + 1) (va_cpy (σ (b1 + 1)) (σ (k + 1)) 0 0 24)) k 1 ((setS σ (k + 1) (va_cpy (σ (b1 + 1)) (σ (k + 1)) 0 0 24)) b1 1)) b1 2)) b1 3)) b1 4)) k 5 ((upS (upS (upS (upS (setS σ (k + 1) (va_cpy (σ (b1 + 1)) (σ (k + 1)) 0 0 24)) k 1 ((setS σ (k + 1) (va_cpy (σ (b1 + 1)) (σ (k + 1)) 0 0 24)) b1 1)) k 2 ((upS (setS σ (k + 1) (va_cpy (σ (b1 + 1)) (σ (k + 1)) 0 0 24)) k 1 ((setS σ (k + 1) (va_cpy (σ (b1 + 1)) (σ (k + 1)) 0 0 24)) b1 1)) b1 2)) k 3 ((upS (upS (setS σ (k + 1) (va_cpy (σ (b1 + 1)) (σ (k + 1)) 0 0 24)) k 1 ((setS σ (k + 1) (va_cpy (σ (b1 + 1)) (σ (k + 1)) 0 0 24)) b1 1)) k 2 ((upS (setS σ (k + 1) (va_cpy (σ (b1 + 1)) (σ (k + 1)) 0 0 24)) k 1 ((setS σ (k + 1) (va_cpy (σ (b1 + 1)) (σ (k + 1)) 0 0 24)) b1 1)) b1 2)) b1 3)) k 4 ((upS (upS (upS (setS σ (k + 1) (va_cpy (σ (b1 + 1)) (σ (k + 1)) 0 0 24)) k 1 ((setS σ (k + 1) (va_cpy (σ (b1 + 1)) (σ (k + 1)) 0 0 24)) b1 1)) k 2 ((upS (setS σ (k + 1) (va_cpy (σ (b1 + 1)) (σ (k + 1)) 0 0 24)) k 1 ((setS σ (k + 1) (va_cpy (σ (b1 + 1)) (σ (k + 1)) 0 0 24)) b1 1)) b1 2)) k 3 ((upS (upS (setS σ (k + 1) (va_cpy (σ (b1 + 1)) (σ (k + 1)) 0 0 24)) k 1 ((setS σ (k + 1) (va_cpy (σ (b1 + 1)) (σ (k + 1)) 0 0 24)) b1 1)) k 2 ((upS (setS σ (k + 1) (va_cpy (σ (b1 + 1)) (σ (k + 1)) 0 0 24)) k 1 ((setS σ (k + 1) (va_cpy (σ (b1 + 1)) (σ (k + 1)) 0 0 24)) b1 1)) b1 2)) b1 3)) b1 4)) b1 5)) k 6 ((upS (upS (upS (upS (upS (setS σ (k + 1) (va_cpy (σ (b1 + 1)) (σ (k + 1)) 0 0 24)) k 1 ((setS σ (k + 1) (va_cpy (σ (b1 + 1)) (σ (k + 1)) 0 0 24)) b1 1)) k 2 ((upS (setS σ (k + 1) (va_cpy (σ (b1 + 1)) (σ (k + 1)) 0 0 24)) k 1 ((setS σ (k + 1) (va_cpy (σ (b1 + 1)) (σ (k + 1)) 0 0 24)) b1 1)) b1 2)) k 3 ((upS (upS (setS σ (k + 1) (va_cpy (σ (b1 + 1)) (σ (k + 1)) 0 0 24)) k 1 ((setS σ (k + 1) (va_cpy (σ (b1 + 1)) (σ (k + 1)) 0 0 24)) b1 1)) k 2 ((upS (setS σ (k + 1) (va_cpy (σ (b1 + 1)) (σ (k + 1)) 0 0 24)) k 1 ((setS σ (k + 1) (va_cpy (σ (b1 + 1)) (σ (k + 1)) 0 0 24)) b1 1)) b1 2)) b1 3)) k 4 ((upS (upS (upS (setS σ (k + 1) (va_cpy (σ (b1 + 1)) (σ (k + 1)) 0 0 24)) k 1 ((setS σ (k + 1) (va_cpy (σ (b1 + 1)) (σ (k + 1)) 0 0 24)) b1 1)) k 2 ((upS (setS σ (k + 1) (va_cpy (σ (b1 + 1)) (σ (k + 1)) 0 0 24)) k 1 ((setS σ (k + 1) (va_cpy (σ (b1 + 1)) (σ (k + 1)) 0 0 24)) b1 1)) b1 2)) k 3 ((upS (upS (setS σ (k + 1) (va_cpy (σ (b1 + 1)) (σ (k + 1)) 0 0 24)) k 1 ((setS σ (k + 1) (va_cpy (σ (b1 + 1)) (σ (k + 1)) 0 0 24)) b1 1)) k 2 ((upS (setS σ (k + 1) (va_cpy (σ (b1 + 1)) (σ (k + 1)) 0 0 24)) k 1 ((setS σ (k + 1) (va_cpy (σ (b1 + 1)) (σ (k + 1)) 0 0 24)) b1 1)) b1 2)) b1 3)) b1 4)) k 5 ((upS (upS (upS (upS (setS σ (k + 1) (va_cpy (σ (b1 + 1)) (σ (k + 1)) 0 0 24)) k 1 ((setS σ (k + 1) (va_cpy (σ (b1 + 1)) (σ (k + 1)) 0 0 24)) b1 1)) k 2 ((upS (setS σ (k + 1) (va_cpy (σ (b1 + 1)) (σ (k + 1)) 0 0 24)) k 1 ((setS σ (k + 1) (va_cpy (σ (b1 + 1)) (σ (k + 1)) 0 0 24)) b1 1)) b1 2)) k 3 ((upS (upS (setS σ (k + 1) (va_cpy (σ (b1 + 1)) (σ (k + 1)) 0 0 24)) k 1 ((setS σ (k + 1) (va_cpy (σ (b1 + 1)) (σ (k + 1)) 0 0 24)) b1 1)) k 2 ((upS (setS σ (k + 1) (va_cpy (σ (b1 + 1)) (σ (k + 1)) 0 0 24)) k 1 ((setS σ (k + 1) (va_cpy (σ (b1 + 1)) (σ (k + 1)) 0 0 24)) b1 1)) b1 2)) b1 3)) k 4 ((upS (upS (upS (setS σ (k + 1) (va_cpy (σ (b1 + 1)) (σ (k + 1)) 0 0 24)) k 1 ((setS σ (k + 1) (va_cpy (σ (b1 + 1)) (σ (k + 1)) 0 0 24)) b1 1)) k 2 ((upS (setS σ (k + 1) (va_cpy (σ (b1 + 1)) (σ (k + 1)) 0 0 24)) k 1 ((setS σ (k + 1) (va_cpy (σ (b1 + 1)) (σ (k + 1)) 0 0 24)) b1 1)) b1 2)) k 3 ((upS (upS (setS σ (k + 1) (va_cpy (σ (b1 + 1)) (σ (k + 1)) 0 0 24)) k 1 ((setS σ (k + 1) (va_cpy (σ (b1 + 1)) (σ (k + 1)) 0 0 24)) b1 1)) k 2 ((upS (setS σ (k + 1) (va_cpy (σ (b1 + 1)) (σ (k + 1)) 0 0 24)) k 1 ((setS σ (k + 1) (va_cpy (σ (b1 + 1)) (σ (k + 1)) 0 0 24)) b1 1)) b1 2)) b1 3)) b1 4)) b1 5)) b1 6)) b1 7)) k 8 ((upS (upS (upS (upS (upS (upS (upS (setS σ (k + 1) (va_cpy (σ (b1 + 1)) (σ (k + 1)) 0 0 24)) k 1 ((setS σ (k + 1) (va_cpy (σ (b1 + 1)) (σ (k + 1)) 0 0 24)) b1 1)) k 2 ((upS (setS σ (k + 1) (va_cpy (σ (b1 + 1)) (σ (k + 1)) 0 0 24)) k 1 ((setS σ (k + 1) (va_cpy (σ (b1 + 1)) (σ (k + 1)) 0 0 24)) b1 1)) b1 2)) k 3 ((upS (upS (setS σ (k + 1) (va_cpy (σ (b1 + 1)) (σ (k + 1)) 0 0 24)) k 1 ((setS σ (k + 1) (va_cpy (σ (b1 + 1)) (σ (k + 1)) 0 0 24)) b1 1)) k 2 ((upS (setS σ (k + 1) (va_cpy (σ (b1 + 1)) (σ (k + 1)) 0 0 24)) k 1 ((setS σ (k + 1) (va_cpy (σ (b1 + 1)) (σ (k + 1)) 0 0 24)) b1 1)) b1 2)) b1 3)) k 4 ((upS (upS (upS (setS σ (k + 1) (va_cpy (σ (b1 + 1)) (σ (k + 1)) 0 0 24)) k 1 ((setS σ (k + 1) (va_cpy (σ (b1 + 1)) (σ (k + 1)) 0 0 24)) b1 1)) k 2 ((upS (setS σ (k + 1) (va_cpy (σ (b1 + 1)) (σ (k + 1)) 0 0 24)) k 1 ((setS σ (k + 1) (va_cpy (σ (b1 + 1)) (σ (k + 1)) 0 0 24)) b1 1)) b1 2)) k 3 ((upS (upS (setS σ (k + 1) (va_cpy (σ (b1 + 1)) (σ (k + 1)) 0 0 24)) k 1 ((setS σ (k + 1) (va_cpy (σ (b1 + 1)) (σ (k + 1)) 0 0 24)) b1 1)) k 2 ((upS (setS σ (k + 1) (va_cpy (σ (b1 + 1)) (σ (k + 1)) 0 0 24)) k 1 ((setS σ (k + 1) (va_cpy (σ (b1 + 1)) (σ (k + 1)) 0 0 24)) b1 1)) b1 2)) b1 3)) b1 4)) k 5 ((upS (upS (upS (upS (setS σ (k + 1) (va_cpy (σ (b1 + 1)) (σ (k + 1)) 0 0 24)) k 1 ((setS σ (k + 1) (va_cpy (σ (b1 + 1)) (σ (k + 1)) 0 0 24)) b1 1)) k 2 ((upS (setS σ (k + 1) (va_cpy (σ (b1 + 1)) (σ (k + 1)) 0 0 24)) k 1 ((setS σ (k + 1) (va_cpy (σ (b1 + 1)) (σ (k + 1)) 0 0 24)) b1 1)) b1 2)) k 3 ((upS (upS (setS σ (k + 1) (va_cpy (σ (b1 + 1)) (σ (k + 1)) 0 0 24)) k 1 ((setS σ (k + 1) (va_cpy (σ (b1 + 1)) (σ (k + 1)) 0 0 24)) b1 1)) k 2 ((upS (setS σ (k + 1) (va_cpy (σ (b1 + 1)) (σ (k + 1)) 0 0 24)) k 1 ((setS σ (k + 1) (va_cpy (σ (b1 + 1)) (σ (k + 1)) 0 0 24)) b1 1)) b1 2)) b1 3)) k 4 ((upS (upS (upS (setS σ (k + 1) (va_cpy (σ (b1 + 1)) (σ (k + 1)) 0 0 24)) k 1 ((setS σ (k + 1) (va_cpy (σ (b1 + 1)) (σ (k + 1)) 0 0 24)) b1 1)) k 2 ((upS (setS σ (k + 1) (va_cpy (σ (b1 + 1)) (σ (k + 1)) 0 0 24)) k 1 ((setS σ (k + 1) (va_cpy (σ (b1 + 1)) (σ (k + 1)) 0 0 24)) b1 1)) b1 2)) k 3 ((upS (upS (setS σ (k + 1) (va_cpy (σ (b1 + 1)) (σ (k + 1)) 0 0 24)) k 1 ((setS σ (k + 1) (va_cpy (σ (b1 + 1)) (σ (k + 1)) 0 0 24)) b1 1)) k 2 ((upS (setS σ (k + 1) (va_cpy (σ (b1 + 1)) (σ (k + 1)) 0 0 24)) k 1 ((setS σ (k + 1) (va_cpy (σ (b1 + 1)) (σ (k + 1)) 0 0 24)) b1 1)) b1 2)) b1 3)) b1 4)) b1 5)) k 6 ((upS (upS (upS (upS (upS (setS σ (k + 1) (va_cpy (σ (b1 + 1)) (σ (k + 1)) 0 0 24)) k 1 ((setS σ (k + 1) (va_cpy (σ (b1 + 1)) (σ (k + 1)) 0 0 24)) b1 1)) k 2 ((upS (setS σ (k + 1) (va_cpy (σ (b1 + 1)) (σ (k + 1)) 0 0 24)) k 1 ((setS σ (k + 1) (va_cpy (σ (b1 + 1)) (σ (k + 1)) 0 0 24)) b1 1)) b1 2)) k 3 ((upS (upS (setS σ (k + 1) (va_cpy (σ (b1 + 1)) (σ (k + 1)) 0 0 24)) k 1 ((setS σ (k + 1) (va_cpy (σ (b1 + 1)) (σ (k + 1)) 0 0 24)) b1 1)) k 2 ((upS (setS σ (k + 1) (va_cpy (σ (b1 + 1)) (σ (k + 1)) 0 0 24)) k 1 ((setS σ (k + 1) (va_cpy (σ (b1 + 1)) (σ (k + 1)) 0 0 24)) b1 1)) b1 2)) b1 3)) k 4 ((upS (upS (upS (setS σ (k + 1) (va_cpy (σ (b1 + 1)) (σ (k + 1)) 0 0 24)) k 1 ((setS σ (k + 1) (va_cpy (σ (b1 + 1)) (σ (k + 1)) 0 0 24)) b1 1)) k 2 ((upS (setS σ (k + 1) (va_cpy (σ (b1 + 1)) (σ (k + 1)) 0 0 24)) k 1 ((setS σ (k + 1) (va_cpy (σ (b1 + 1)) (σ (k + 1)) 0 0 24)) b1 1)) b1 2)) k 3 ((upS (upS (setS σ (k + 1) (va_cpy (σ (b1 + 1)) (σ (k + 1)) 0 0 24)) k 1 ((setS σ (k + 1) (va_cpy (σ (b1 + 1)) (σ (k + 1)) 0 0 24)) b1 1)) k 2 ((upS (setS σ (k + 1) (va_cpy (σ (b1 + 1)) (σ (k + 1)) 0 0 24)) k 1 ((setS σ (k + 1) (va_cpy (σ (b1 + 1)) (σ (k + 1)) 0 0 24)) b1 1)) b1 2)) b1 3)) b1 4)) k 5 ((upS (upS (upS (upS (setS σ (k + 1) (va_cpy (σ (b1 + 1)) (σ (k + 1)) 0 0 24)) k 1 ((setS σ (k + 1) (va_cpy (σ (b1 + 1)) (σ (k + 1)) 0 0 24)) b1 1)) k 2 ((upS (setS σ (k + 1) (va_cpy (σ (b1 + 1)) (σ (k + 1)) 0 0 24)) k 1 ((setS σ (k + 1) (va_cpy (σ (b1 + 1)) (σ (k + 1)) 0 0 24)) b1 1)) b1 2)) k 3 ((upS (upS (setS σ (k + 1) (va_cpy (σ (b1 + 1)) (σ (k + 1)) 0 0 24)) k 1 ((setS σ (k + 1) (va_cpy (σ (b1 + 1)) (σ (k + 1)) 0 0 24)) b1 1)) k 2 ((upS (setS σ (k + 1) (va_cpy (σ (b1 + 1)) (σ (k + 1)) 0 0 24)) k 1 ((setS σ (k + 1) (va_cpy (σ (b1 + 1)) (σ (k + 1)) 0 0 24)) b1 1)) b1 2)) b1 3)) k 4 ((upS (upS (upS (setS σ (k + 1) (va_cpy (σ (b1 + 1)) (σ (k + 1)) 0 0 24)) k 1 ((setS σ (k + 1) (va_cpy (σ (b1 + 1)) (σ (k + 1)) 0 0 24)) b1 1)) k 2 ((upS (setS σ (k + 1) (va_cpy (σ (b1 + 1)) (σ (k + 1)) 0 0 24)) k 1 ((setS σ (k + 1) (va_cpy (σ (b1 + 1)) (σ (k + 1)) 0 0 24)) b1 1)) b1 2)) k 3 ((upS (upS (setS σ (k + 1) (va_cpy (σ (b1 + 1)) (σ (k + 1)) 0 0 24)) k 1 ((setS σ (k + 1) (va_cpy (σ (b1 + 1)) (σ (k + 1)) 0 0 24)) b1 1)) k 2 ((upS (setS σ (k + 1) (va_cpy (σ (b1 + 1)) (σ (k + 1)) 0 0 24)) k 1 ((setS σ (k + 1) (va_cpy (σ (b1 + 1)) (σ (k + 1)) 0 0 24)) b1 1)) b1 2)) b1 3)) b1 4)) b1 5)) b1 6)) k 7 ((upS (upS (upS (upS (upS (upS (setS σ (k + 1) (va_cpy (σ (b1 + 1)) (σ (k + 1)) 0 0 24)) k 1 ((setS σ (k + 1) (va_cpy (σ (b1 + 1)) (σ (k + 1)) 0 0 24)) b1 1)) k 2 ((upS (setS σ (k + 1) (va_cpy (σ (b1 + 1)) (σ (k + 1)) 0 0 24)) k 1 ((setS σ (k + 1) (va_cpy (σ (b1 + 1)) (σ (k + 1)) 0 0 24)) b1 1)) b1 2)) k 3 ((upS (upS (setS σ (k + 1) (va_cpy (σ (b1 + 1)) (σ (k + 1)) 0 0 24)) k 1 ((setS σ (k + 1) (va_cpy (σ (b1 + 1)) (σ (k + 1)) 0 0 24)) b1 1)) k 2 ((upS (setS σ (k + 1) (va_cpy (σ (b1 + 1)) (σ (k + 1)) 0 0 24)) k 1 ((setS σ (k + 1) (va_cpy (σ (b1 + 1)) (σ (k + 1)) 0 0 24)) b1 1)) b1 2)) b1 3)) k 4 ((upS (upS (upS (setS σ (k + 1) (va_cpy (σ (b1 + 1)) (σ (k + 1)) 0 0 24)) k 1 ((setS σ (k + 1) (va_cpy (σ (b1 + 1)) (σ (k + 1)) 0 0 24)) b1 1)) k 2 ((upS (setS σ (k + 1) (va_cpy (σ (b1 + 1)) (σ (k + 1)) 0 0 24)) k 1 ((setS σ (k + 1) (va_cpy (σ (b1 + 1)) (σ (k + 1)) 0 0 24)) b1 1)) b1 2)) k 3 ((upS (upS (setS σ (k + 1) (va_cpy (σ (b1 + 1)) (σ (k + 1)) 0 0 24)) k 1 ((setS σ (k + 1) (va_cpy (σ (b1 + 1)) (σ (k + 1)) 0 0 24)) b1 1)) k 2 ((upS (setS σ (k + 1) (va_cpy (σ (b1 + 1)) (σ (k + 1)) 0 0 24)) k 1 ((setS σ (k + 1) (va_cpy (σ (b1 + 1)) (σ (k + 1)) 0 0 24)) b1 1)) b1 2)) b1 3)) b1 4)) k 5 ((upS (upS (upS (upS (setS σ (k + 1) (va_cpy (σ (b1 + 1)) (σ (k + 1)) 0 0 24)) k 1 ((setS σ (k + 1) (va_cpy (σ (b1 + 1)) (σ (k + 1)) 0 0 24)) b1 1)) k 2 ((upS (setS σ (k + 1) (va_cpy (σ (b1 + 1)) (σ (k + 1)) 0 0 24)) k 1 ((setS σ (k + 1) (va_cpy (σ (b1 + 1)) (σ (k + 1)) 0 0 24)) b1 1)) b1 2)) k 3 ((upS (upS (setS σ (k + 1) (va_cpy (σ (b1 + 1)) (σ (k + 1)) 0 0 24)) k 1 ((setS σ (k + 1) (va_cpy (σ (b1 + 1)) (σ (k + 1)) 0 0 24)) b1 1)) k 2 ((upS (setS σ (k + 1) (va_cpy (σ (b1 + 1)) (σ (k + 1)) 0 0 24)) k 1 ((setS σ (k + 1) (va_cpy (σ (b1 + 1)) (σ (k + 1)) 0 0 24)) b1 1)) b1 2)) b1 3)) k 4 ((upS (upS (upS (setS σ (k + 1) (va_cpy (σ (b1 + 1)) (σ (k + 1)) 0 0 24)) k 1 ((setS σ (k + 1) (va_cpy (σ (b1 + 1)) (σ (k + 1)) 0 0 24)) b1 1)) k 2 ((upS (setS σ (k + 1) (va_cpy (σ (b1 + 1)) (σ (k + 1)) 0 0 24)) k 1 ((setS σ (k + 1) (va_cpy (σ (b1 + 1)) (σ (k + 1)) 0 0 24)) b1 1)) b1 2)) k 3 ((upS (upS (setS σ (k + 1) (va_cpy (σ (b1 + 1)) (σ (k + 1)) 0 0 24)) k 1 ((setS σ (k + 1) (va_cpy (σ (b1 + 1)) (σ (k + 1)) 0 0 24)) b1 1)) k 2 ((upS (setS σ (k + 1) (va_cpy (σ (b1 + 1)) (σ (k + 1)) 0 0 24)) k 1 ((setS σ (k + 1) (va_cpy (σ (b1 + 1)) (σ (k + 1)) 0 0 24)) b1 1)) b1 2)) b1 3)) b1 4)) b1 5)) k 6 ((upS (upS (upS (upS (upS (setS σ (k + 1) (va_cpy (σ (b1 + 1)) (σ (k + 1)) 0 0 24)) k 1 ((setS σ (k + 1) (va_cpy (σ (b1 + 1)) (σ (k + 1)) 0 0 24)) b1 1)) k 2 ((upS (setS σ (k + 1) (va_cpy (σ (b1 + 1)) (σ (k + 1)) 0 0 24)) k 1 ((setS σ (k + 1) (va_cpy (σ (b1 + 1)) (σ (k + 1)) 0 0 24)) b1 1)) b1 2)) k 3 ((upS (upS (setS σ (k + 1) (va_cpy (σ (b1 + 1)) (σ (k + 1)) 0 0 24)) k 1 ((setS σ (k + 1) (va_cpy (σ (b1 + 1)) (σ (k + 1)) 0 0 24)) b1 1)) k 2 ((upS (setS σ (k + 1) (va_cpy (σ (b1 + 1)) (σ (k + 1)) 0 0 24)) k 1 ((setS σ (k + 1) (va_cpy (σ (b1 + 1)) (σ (k + 1)) 0 0 24)) b1 1)) b1 2)) b1 3)) k 4 ((upS (upS (upS (setS σ (k + 1) (va_cpy (σ (b1 + 1)) (σ (k + 1)) 0 0 24)) k 1 ((setS σ (k + 1) (va_cpy (σ (b1 + 1)) (σ (k + 1)) 0 0 24)) b1 1)) k 2 ((upS (setS σ (k + 1) (va_cpy (σ (b1 + 1)) (σ (k + 1)) 0 0 24)) k 1 ((setS σ (k + 1) (va_cpy (σ (b1 + 1)) (σ (k + 1)) 0 0 24)) b1 1)) b1 2)) k 3 ((upS (upS (setS σ (k + 1) (va_cpy (σ (b1 + 1)) (σ (k + 1)) 0 0 24)) k 1 ((setS σ (k + 1) (va_cpy (σ (b1 + 1)) (σ (k + 1)) 0 0 24)) b1 1)) k 2 ((upS (setS σ (k + 1) (va_cpy (σ (b1 + 1)) (σ (k + 1)) 0 0 24)) k 1 ((setS σ (k + 1) (va_cpy (σ (b1 + 1)) (σ (k + 1)) 0 0 24)) b1 1)) b1 2)) b1 3)) b1 4)) k 5 ((upS (upS (upS (upS (setS σ (k + 1) (va_cpy (σ (b1 + 1)) (σ (k + 1)) 0 0 24)) k 1 ((setS σ (k + 1) (va_cpy (σ (b1 + 1)) (σ (k + 1)) 0 0 24)) b1 1)) k 2 ((upS (setS σ (k + 1) (va_cpy (σ (b1 + 1)) (σ (k + 1)) 0 0 24)) k 1 ((setS σ (k + 1) (va_cpy (σ (b1 + 1)) (σ (k + 1)) 0 0 24)) b1 1)) b1 2)) k 3 ((upS (upS (setS σ (k + 1) (va_cpy (σ (b1 + 1)) (σ (k + 1)) 0 0 24)) k 1 ((setS σ (k + 1) (va_cpy (σ (b1 + 1)) (σ (k + 1)) 0 0 24)) b1 1)) k 2 ((upS (setS σ (k + 1) (va_cpy (σ (b1 + 1)) (σ (k + 1)) 0 0 24)) k 1 ((setS σ (k + 1) (va_cpy (σ (b1 + 1)) (σ (k + 1)) 0 0 24)) b1 1)) b1 2)) b1 3)) k 4 ((upS (upS (upS (setS σ (k + 1) (va_cpy (σ (b1 + 1)) (σ (k + 1)) 0 0 24)) k 1 ((setS σ (k + 1) (va_cpy (σ (b1 + 1)) (σ (k + 1)) 0 0 24)) b1 1)) k 2 ((upS (setS σ (k + 1) (va_cpy (σ (b1 + 1)) (σ (k + 1)) 0 0 24)) k 1 ((setS σ (k + 1) (va_cpy (σ (b1 + 1)) (σ (k + 1)) 0 0 24)) b1 1)) b1 2)) k 3 ((upS (upS (setS σ (k + 1) (va_cpy (σ (b1 + 1)) (σ (k + 1)) 0 0 24)) k 1 ((setS σ (k + 1) (va_cpy (σ (b1 + 1)) (σ (k + 1)) 0 0 24)) b1 1)) k 2 ((upS (setS σ (k + 1) (va_cpy (σ (b1 + 1)) (σ (k + 1)) 0 0 24)) k 1 ((setS σ (k + 1) (va_cpy (σ (b1 + 1)) (σ (k + 1)) 0 0 24)) b1 1)) b1 2)) b1 3)) b1 4)) b1 5)) b1 6)) b1 7)) b1 8)))
set_option maxRecDepth 100000 in
set_option maxHeartbeats 4000000 in
theorem wfX0_take (X : Scr) (k : Nat) (hk : bk k) (b1 : Nat) (hb1 : bk b1) (σ : Sto) (z : Unit × Sto) (h : fX0_take k b1 σ = some z) : Rt X RX0 cX0_take 2 (rmA 1 60) .return_ 0 [(0, .ref k), (1, .ref b1)] [] σ none z.2 := by
  unfold fX0_take at h
  refine Rt.aload_n 1 dX0_take_0 rfl ?_
  refine Rt.ifnonnull 5 dX0_take_1 (by decide) ?_
  refine Rt.aload_n 1 dX0_take_5 rfl ?_
  refine gfX0_9 hb1.1 dX0_take_6 ?_
  refine Rt.iconst 0 dX0_take_9 (by decide) ?_
  refine Rt.aload_n 0 dX0_take_10 rfl ?_
  refine gfX0_9 hk.1 dX0_take_11 ?_
  refine Rt.iconst 0 dX0_take_14 (by decide) ?_
  refine Rt.bipush 24 dX0_take_15 (by decide) ?_
  refine Rt.copy24 hb1.2 hk.2 mlX0_40 natAC smAC iniSys (Nat.le_of_ble_eq_true rfl) (by decide) dX0_take_17 ?_
  refine Rt.aload_n 0 dX0_take_20 rfl ?_
  refine Rt.aload_n 1 dX0_take_21 rfl ?_
  refine gfX0_15 hb1.1 dX0_take_22 ?_
  refine pfX0_15 hk.1 dX0_take_25 ?_
  refine Rt.aload_n 0 dX0_take_28 rfl ?_
  refine Rt.aload_n 1 dX0_take_29 rfl ?_
  refine gfX0_19 hb1.1 dX0_take_30 ?_
  refine pfX0_19 hk.1 dX0_take_33 ?_
  refine Rt.aload_n 0 dX0_take_36 rfl ?_
  refine Rt.aload_n 1 dX0_take_37 rfl ?_
  refine gfX0_22 hb1.1 dX0_take_38 ?_
  refine pfX0_22 hk.1 dX0_take_41 ?_
  refine Rt.aload_n 0 dX0_take_44 rfl ?_
  refine Rt.aload_n 1 dX0_take_45 rfl ?_
  refine gfX0_25 hb1.1 dX0_take_46 ?_
  refine pfX0_25 hk.1 dX0_take_49 ?_
  refine Rt.aload_n 0 dX0_take_52 rfl ?_
  refine Rt.aload_n 1 dX0_take_53 rfl ?_
  refine gfX0_28 hb1.1 dX0_take_54 ?_
  refine pfX0_28 hk.1 dX0_take_57 ?_
  refine Rt.aload_n 0 dX0_take_60 rfl ?_
  refine Rt.aload_n 1 dX0_take_61 rfl ?_
  refine gfX0_31 hb1.1 dX0_take_62 ?_
  refine pfX0_31 hk.1 dX0_take_65 ?_
  refine Rt.aload_n 0 dX0_take_68 rfl ?_
  refine Rt.aload_n 1 dX0_take_69 rfl ?_
  refine gfX0_34 hb1.1 dX0_take_70 ?_
  refine pfX0_34 hk.1 dX0_take_73 ?_
  refine Rt.aload_n 0 dX0_take_76 rfl ?_
  refine Rt.aload_n 1 dX0_take_77 rfl ?_
  refine gfX0_37 hb1.1 dX0_take_78 ?_
  refine pfX0_37 hk.1 dX0_take_81 ?_
  obtain rfl := Option.some.inj h
  exact Rt.ret (v := none) dX0_take_84 rfl rfl rfl
set_option maxRecDepth 100000 in
set_option maxHeartbeats 4000000 in
theorem mfX0_take (k : Nat) (hk : bk k) (b1 : Nat) (hb1 : bk b1) (σ : Sto) (z : Unit × Sto) (h : fX0_take k b1 σ = some z) : AM yX0_take cX0_take 2 none 1 60 [.ref k, .ref b1] σ none z.2 := AM.void rfl (Nat.le_of_ble_eq_true rfl) (fun X => wfX0_take X k hk b1 hb1 σ z h)
-- fX2_letterAt
def fX2_letterAt (v1 : Int32) (σ : Sto) : Option (Int32 × Sto) := if v1 < 0 then (some ((-1 : Int32), σ)) else (if (σ 9 1) ≤ v1 then (some ((-1 : Int32), σ)) else (if (80 : Int32) ≤ v1 then (some ((-1 : Int32), σ)) else (if inb v1 80 = true then (some ((σ 10 (v1).toNatClampNeg), σ)) else none)))
set_option maxRecDepth 100000 in
set_option maxHeartbeats 4000000 in
theorem wfX2_letterAt (X : Scr) (v1 : Int32) (σ : Sto) (z : Int32 × Sto) (h : fX2_letterAt v1 σ = some z) : Rt X RX2 cX2_letterAt 2 (rmA 0 0) .ireturn 0 [(0, .ref 9), (1, .int v1)] [] σ (some (.int z.1)) z.2 := by
  unfold fX2_letterAt at h
  refine Rt.iload_n 1 dX2_letterAt_0 rfl ?_
  refine Rt.if_lt 27 dX2_letterAt_1 (by decide) (fun c1 => ?_) (fun c1 => ?_)
  · replace h := (if_pos c1).symm.trans h
    refine Rt.iconst (-1) dX2_letterAt_27 (by decide) ?_
    obtain rfl := Option.some.inj h
    exact Rt.ret (v := some (.int (-1 : Int32))) dX2_letterAt_28 rfl rfl rfl
  · replace h := (if_neg c1).symm.trans h
    refine Rt.iload_n 1 dX2_letterAt_4 rfl ?_
    refine Rt.aload_n 0 dX2_letterAt_5 rfl ?_
    refine gfX2_15 ly9 dX2_letterAt_6 ?_
    refine Rt.icmp_ge 27 dX2_letterAt_9 (by decide) (fun c2 => ?_) (fun c2 => ?_)
    · replace h := (if_pos c2).symm.trans h
      refine Rt.iconst (-1) dX2_letterAt_27 (by decide) ?_
      obtain rfl := Option.some.inj h
      exact Rt.ret (v := some (.int (-1 : Int32))) dX2_letterAt_28 rfl rfl rfl
    · replace h := (if_neg c2).symm.trans h
      refine Rt.iload_n 1 dX2_letterAt_12 rfl ?_
      refine Rt.bipush 80 dX2_letterAt_13 (by decide) ?_
      refine Rt.icmp_ge 27 dX2_letterAt_15 (by decide) (fun c3 => ?_) (fun c3 => ?_)
      · replace h := (if_pos c3).symm.trans h
        refine Rt.iconst (-1) dX2_letterAt_27 (by decide) ?_
        obtain rfl := Option.some.inj h
        exact Rt.ret (v := some (.int (-1 : Int32))) dX2_letterAt_28 rfl rfl rfl
      · replace h := (if_neg c3).symm.trans h
        refine Rt.aload_n 0 dX2_letterAt_18 rfl ?_
        refine gfX2_9 ly9 dX2_letterAt_19 ?_
        refine Rt.iload_n 1 dX2_letterAt_22 rfl ?_
        obtain ⟨g4, h⟩ := gd h
        refine Rt.iald ly10 g4 dX2_letterAt_23 ?_
        refine Rt.goto 28 dX2_letterAt_24 (by decide) ?_
        obtain rfl := Option.some.inj h
        exact Rt.ret (v := some (.int (σ 10 (v1).toNatClampNeg))) dX2_letterAt_28 rfl rfl rfl
set_option maxRecDepth 100000 in
set_option maxHeartbeats 4000000 in
theorem mfX2_letterAt (v1 : Int32) (σ : Sto) (z : Int32 × Sto) (h : fX2_letterAt v1 σ = some z) : AM yX2_letterAt cX2_letterAt 2 (some .int) 0 0 [.ref 9, .int v1] σ (some (.int z.1)) z.2 := AM.int rfl (Nat.le_of_ble_eq_true rfl) (fun X => wfX2_letterAt X v1 σ z h)
-- fX2_shapeOf
def fX2_shapeOf (v0 : Int32) (σ : Sto) : Option (Nat × Sto) := if v0 = 104 then (some (1, σ)) else (if v0 = 105 then (some (0, σ)) else (if v0 = 106 then (some (4, σ)) else (if v0 = 107 then (some (4, σ)) else (if v0 = 108 then (some (4, σ)) else (if v0 = 109 then (some (2, σ)) else (if v0 = 110 then (some (4, σ)) else (if v0 = 111 then (some (1, σ)) else (if v0 = 112 then (some (4, σ)) else (if v0 = 113 then (some (4, σ)) else (if v0 = 114 then (some (4, σ)) else (if v0 = 115 then (some (3, σ)) else (some (4, σ)))))))))))))
set_option maxRecDepth 100000 in
set_option maxHeartbeats 4000000 in
theorem wfX2_shapeOf (X : Scr) (v0 : Int32) (σ : Sto) (z : Nat × Sto) (h : fX2_shapeOf v0 σ = some z) : Rt X RX2 cX2_shapeOf 1 (rmA 0 0) .areturn 0 [(0, .int v0)] [] σ (some (.ref (40 + z.1))) z.2 := by
  unfold fX2_shapeOf at h
  refine Rt.iload_n 0 dX2_shapeOf_0 rfl ?_
  by_cases sw1_0 : v0 = 104
  · replace h := (if_pos sw1_0).symm.trans h
    refine Rt.tsIn 67 dX2_shapeOf_1 (by rw [sw1_0] <;> decide) (by rw [sw1_0] <;> decide) (by rw [sw1_0] <;> rfl) (by decide) ?_
    refine Rt.ldcT 1 (by decide) rfl rfl dX2_shapeOf_67 ?_
    obtain rfl := Option.some.inj h
    exact Rt.ret (v := some (.ref (40 + 1))) dX2_shapeOf_69 rfl rfl rfl
  · replace h := (if_neg sw1_0).symm.trans h
    by_cases sw1_1 : v0 = 105
    · replace h := (if_pos sw1_1).symm.trans h
      refine Rt.tsIn 64 dX2_shapeOf_1 (by rw [sw1_1] <;> decide) (by rw [sw1_1] <;> decide) (by rw [sw1_1] <;> rfl) (by decide) ?_
      refine Rt.ldcT 0 (by decide) rfl rfl dX2_shapeOf_64 ?_
      obtain rfl := Option.some.inj h
      exact Rt.ret (v := some (.ref (40 + 0))) dX2_shapeOf_66 rfl rfl rfl
    · replace h := (if_neg sw1_1).symm.trans h
      by_cases sw1_2 : v0 = 106
      · replace h := (if_pos sw1_2).symm.trans h
        refine Rt.tsIn 76 dX2_shapeOf_1 (by rw [sw1_2] <;> decide) (by rw [sw1_2] <;> decide) (by rw [sw1_2] <;> rfl) (by decide) ?_
        refine Rt.ldcT 4 (by decide) rfl rfl dX2_shapeOf_76 ?_
        obtain rfl := Option.some.inj h
        exact Rt.ret (v := some (.ref (40 + 4))) dX2_shapeOf_78 rfl rfl rfl
      · replace h := (if_neg sw1_2).symm.trans h
        by_cases sw1_3 : v0 = 107
        · replace h := (if_pos sw1_3).symm.trans h
          refine Rt.tsIn 76 dX2_shapeOf_1 (by rw [sw1_3] <;> decide) (by rw [sw1_3] <;> decide) (by rw [sw1_3] <;> rfl) (by decide) ?_
          refine Rt.ldcT 4 (by decide) rfl rfl dX2_shapeOf_76 ?_
          obtain rfl := Option.some.inj h
          exact Rt.ret (v := some (.ref (40 + 4))) dX2_shapeOf_78 rfl rfl rfl
        · replace h := (if_neg sw1_3).symm.trans h
          by_cases sw1_4 : v0 = 108
          · replace h := (if_pos sw1_4).symm.trans h
            refine Rt.tsIn 76 dX2_shapeOf_1 (by rw [sw1_4] <;> decide) (by rw [sw1_4] <;> decide) (by rw [sw1_4] <;> rfl) (by decide) ?_
            refine Rt.ldcT 4 (by decide) rfl rfl dX2_shapeOf_76 ?_
            obtain rfl := Option.some.inj h
            exact Rt.ret (v := some (.ref (40 + 4))) dX2_shapeOf_78 rfl rfl rfl
          · replace h := (if_neg sw1_4).symm.trans h
            by_cases sw1_5 : v0 = 109
            · replace h := (if_pos sw1_5).symm.trans h
              refine Rt.tsIn 70 dX2_shapeOf_1 (by rw [sw1_5] <;> decide) (by rw [sw1_5] <;> decide) (by rw [sw1_5] <;> rfl) (by decide) ?_
              refine Rt.ldcT 2 (by decide) rfl rfl dX2_shapeOf_70 ?_
              obtain rfl := Option.some.inj h
              exact Rt.ret (v := some (.ref (40 + 2))) dX2_shapeOf_72 rfl rfl rfl
            · replace h := (if_neg sw1_5).symm.trans h
              by_cases sw1_6 : v0 = 110
              · replace h := (if_pos sw1_6).symm.trans h
                refine Rt.tsIn 76 dX2_shapeOf_1 (by rw [sw1_6] <;> decide) (by rw [sw1_6] <;> decide) (by rw [sw1_6] <;> rfl) (by decide) ?_
                refine Rt.ldcT 4 (by decide) rfl rfl dX2_shapeOf_76 ?_
                obtain rfl := Option.some.inj h
                exact Rt.ret (v := some (.ref (40 + 4))) dX2_shapeOf_78 rfl rfl rfl
              · replace h := (if_neg sw1_6).symm.trans h
                by_cases sw1_7 : v0 = 111
                · replace h := (if_pos sw1_7).symm.trans h
                  refine Rt.tsIn 67 dX2_shapeOf_1 (by rw [sw1_7] <;> decide) (by rw [sw1_7] <;> decide) (by rw [sw1_7] <;> rfl) (by decide) ?_
                  refine Rt.ldcT 1 (by decide) rfl rfl dX2_shapeOf_67 ?_
                  obtain rfl := Option.some.inj h
                  exact Rt.ret (v := some (.ref (40 + 1))) dX2_shapeOf_69 rfl rfl rfl
                · replace h := (if_neg sw1_7).symm.trans h
                  by_cases sw1_8 : v0 = 112
                  · replace h := (if_pos sw1_8).symm.trans h
                    refine Rt.tsIn 76 dX2_shapeOf_1 (by rw [sw1_8] <;> decide) (by rw [sw1_8] <;> decide) (by rw [sw1_8] <;> rfl) (by decide) ?_
                    refine Rt.ldcT 4 (by decide) rfl rfl dX2_shapeOf_76 ?_
                    obtain rfl := Option.some.inj h
                    exact Rt.ret (v := some (.ref (40 + 4))) dX2_shapeOf_78 rfl rfl rfl
                  · replace h := (if_neg sw1_8).symm.trans h
                    by_cases sw1_9 : v0 = 113
                    · replace h := (if_pos sw1_9).symm.trans h
                      refine Rt.tsIn 76 dX2_shapeOf_1 (by rw [sw1_9] <;> decide) (by rw [sw1_9] <;> decide) (by rw [sw1_9] <;> rfl) (by decide) ?_
                      refine Rt.ldcT 4 (by decide) rfl rfl dX2_shapeOf_76 ?_
                      obtain rfl := Option.some.inj h
                      exact Rt.ret (v := some (.ref (40 + 4))) dX2_shapeOf_78 rfl rfl rfl
                    · replace h := (if_neg sw1_9).symm.trans h
                      by_cases sw1_10 : v0 = 114
                      · replace h := (if_pos sw1_10).symm.trans h
                        refine Rt.tsIn 76 dX2_shapeOf_1 (by rw [sw1_10] <;> decide) (by rw [sw1_10] <;> decide) (by rw [sw1_10] <;> rfl) (by decide) ?_
                        refine Rt.ldcT 4 (by decide) rfl rfl dX2_shapeOf_76 ?_
                        obtain rfl := Option.some.inj h
                        exact Rt.ret (v := some (.ref (40 + 4))) dX2_shapeOf_78 rfl rfl rfl
                      · replace h := (if_neg sw1_10).symm.trans h
                        by_cases sw1_11 : v0 = 115
                        · replace h := (if_pos sw1_11).symm.trans h
                          refine Rt.tsIn 73 dX2_shapeOf_1 (by rw [sw1_11] <;> decide) (by rw [sw1_11] <;> decide) (by rw [sw1_11] <;> rfl) (by decide) ?_
                          refine Rt.ldcT 3 (by decide) rfl rfl dX2_shapeOf_73 ?_
                          obtain rfl := Option.some.inj h
                          exact Rt.ret (v := some (.ref (40 + 3))) dX2_shapeOf_75 rfl rfl rfl
                        · replace h := (if_neg sw1_11).symm.trans h
                          have hsw : (v0).toInt < 104 ∨ 115 < (v0).toInt := by
                            have w0 := nti 104 (k := 104) rfl sw1_0
                            have w1 := nti 105 (k := 105) rfl sw1_1
                            have w2 := nti 106 (k := 106) rfl sw1_2
                            have w3 := nti 107 (k := 107) rfl sw1_3
                            have w4 := nti 108 (k := 108) rfl sw1_4
                            have w5 := nti 109 (k := 109) rfl sw1_5
                            have w6 := nti 110 (k := 110) rfl sw1_6
                            have w7 := nti 111 (k := 111) rfl sw1_7
                            have w8 := nti 112 (k := 112) rfl sw1_8
                            have w9 := nti 113 (k := 113) rfl sw1_9
                            have w10 := nti 114 (k := 114) rfl sw1_10
                            have w11 := nti 115 (k := 115) rfl sw1_11
                            omega
                          refine Rt.tsOut 76 dX2_shapeOf_1 hsw (by decide) ?_
                          refine Rt.ldcT 4 (by decide) rfl rfl dX2_shapeOf_76 ?_
                          obtain rfl := Option.some.inj h
                          exact Rt.ret (v := some (.ref (40 + 4))) dX2_shapeOf_78 rfl rfl rfl
set_option maxRecDepth 100000 in
set_option maxHeartbeats 4000000 in
theorem mfX2_shapeOf (v0 : Int32) (σ : Sto) (z : Nat × Sto) (h : fX2_shapeOf v0 σ = some z) : AM yX2_shapeOf cX2_shapeOf 1 (some (.object "java/lang/String")) 0 0 [.int v0] σ (some (.ref (40 + z.1))) z.2 := AM.refr rfl (Nat.le_of_ble_eq_true rfl) (fun X => wfX2_shapeOf X v0 σ z h)
-- fJ0_isEmpty_aae02
def fJ0_isEmpty_aae02_e (i : Nat) (σ : Sto) : Option (Int32 × Sto) := if (Int32.ofNat (sLen.getD i 0)) = 0 then (some ((1 : Int32), σ)) else (some ((0 : Int32), σ))
set_option maxRecDepth 100000 in
set_option maxHeartbeats 4000000 in
theorem wfJ0_isEmpty_aae02_e (X : Scr) (i : Nat) (hi : i < 6) (σ : Sto) (z : Int32 × Sto) (h : fJ0_isEmpty_aae02_e i σ = some z) : Rt X RJ0 cJ0_isEmpty_aae02 1 (rmA 0 0) .ireturn 0 [(0, .ref (40 + i))] [] σ (some (.int z.1)) z.2 := by
  unfold fJ0_isEmpty_aae02_e at h
  refine Rt.aload_n 0 dJ0_isEmpty_aae02_0 rfl ?_
  refine Rt.getV hi flJ0_9 dJ0_isEmpty_aae02_1 ?_
  refine Rt.alenT hi dJ0_isEmpty_aae02_4 ?_
  refine Rt.if_ne 12 dJ0_isEmpty_aae02_5 (by decide) (fun c1 => ?_) (fun c1 => ?_)
  · replace h := (if_neg c1).symm.trans h
    refine Rt.iconst 0 dJ0_isEmpty_aae02_12 (by decide) ?_
    obtain rfl := Option.some.inj h
    exact Rt.ret (v := some (.int (0 : Int32))) dJ0_isEmpty_aae02_13 rfl rfl rfl
  · replace h := (if_pos c1).symm.trans h
    refine Rt.iconst 1 dJ0_isEmpty_aae02_8 (by decide) ?_
    refine Rt.goto 13 dJ0_isEmpty_aae02_9 (by decide) ?_
    obtain rfl := Option.some.inj h
    exact Rt.ret (v := some (.int (1 : Int32))) dJ0_isEmpty_aae02_13 rfl rfl rfl
def fJ0_isEmpty_aae02 (i : Nat) (σ : Sto) : Option (Int32 × Sto) := (fJ0_isEmpty_aae02_e i σ).bind chkZ
set_option maxRecDepth 100000 in
set_option maxHeartbeats 4000000 in
theorem mfJ0_isEmpty_aae02 (i : Nat) (hi : i < 6) (σ : Sto) (z : Int32 × Sto) (h : fJ0_isEmpty_aae02 i σ = some z) : AM yJ0_isEmpty_aae02 cJ0_isEmpty_aae02 1 (some .boolean) 0 0 [.ref (40 + i)] σ (some (.int z.1)) z.2 := by
  obtain ⟨hz, h⟩ := chkZ_ok h
  exact AM.bool hz rfl (Nat.le_of_ble_eq_true rfl) (fun X => wfJ0_isEmpty_aae02_e X i hi σ z h)
-- fJ0_coder_7d493
def fJ0_coder_7d493_e (i : Nat) (σ : Sto) : Option (Int32 × Sto) := if (1 : Int32) = 0 then (some ((1 : Int32), σ)) else (some ((0 : Int32), σ))
set_option maxRecDepth 100000 in
set_option maxHeartbeats 4000000 in
theorem wfJ0_coder_7d493_e (X : Scr) (i : Nat) (hi : i < 6) (σ : Sto) (z : Int32 × Sto) (h : fJ0_coder_7d493_e i σ = some z) : Rt X RJ0 cJ0_coder_7d493 1 (rmA 0 0) .ireturn 0 [(0, .ref (40 + i))] [] σ (some (.int z.1)) z.2 := by
  unfold fJ0_coder_7d493_e at h
  refine Rt.getsCS flJ0_38 dJ0_coder_7d493_0 ?_
  refine Rt.if_eq 13 dJ0_coder_7d493_3 (by decide) (fun c1 => ?_) (fun c1 => ?_)
  · replace h := (if_pos c1).symm.trans h
    refine Rt.iconst 1 dJ0_coder_7d493_13 (by decide) ?_
    obtain rfl := Option.some.inj h
    exact Rt.ret (v := some (.int (1 : Int32))) dJ0_coder_7d493_14 rfl rfl rfl
  · replace h := (if_neg c1).symm.trans h
    refine Rt.aload_n 0 dJ0_coder_7d493_6 rfl ?_
    refine Rt.getC hi flJ0_15 dJ0_coder_7d493_7 ?_
    refine Rt.goto 14 dJ0_coder_7d493_10 (by decide) ?_
    obtain rfl := Option.some.inj h
    exact Rt.ret (v := some (.int (0 : Int32))) dJ0_coder_7d493_14 rfl rfl rfl
def fJ0_coder_7d493 (i : Nat) (σ : Sto) : Option (Int32 × Sto) := (fJ0_coder_7d493_e i σ).bind chkB
set_option maxRecDepth 100000 in
set_option maxHeartbeats 4000000 in
theorem mfJ0_coder_7d493 (i : Nat) (hi : i < 6) (σ : Sto) (z : Int32 × Sto) (h : fJ0_coder_7d493 i σ = some z) : AM yJ0_coder_7d493 cJ0_coder_7d493 1 (some .byte) 0 0 [.ref (40 + i)] σ (some (.int z.1)) z.2 := by
  obtain ⟨hz, h⟩ := chkB_ok h
  exact AM.narrow hz rfl (Nat.le_of_ble_eq_true rfl) (fun X => wfJ0_coder_7d493_e X i hi σ z h)
-- fJ0_length_8abf5
def fJ0_length_8abf5 (i : Nat) (σ : Sto) : Option (Int32 × Sto) := (fJ0_coder_7d493 i σ).bind fun q1 => some ((ishr5 (Int32.ofNat (sLen.getD i 0)) q1.1), q1.2)
set_option maxRecDepth 100000 in
set_option maxHeartbeats 4000000 in
theorem wfJ0_length_8abf5 (X : Scr) (i : Nat) (hi : i < 6) (σ : Sto) (z : Int32 × Sto) (h : fJ0_length_8abf5 i σ = some z) : Rt X RJ0 cJ0_length_8abf5 1 (rmA 1 20) .ireturn 0 [(0, .ref (40 + i))] [] σ (some (.int z.1)) z.2 := by
  unfold fJ0_length_8abf5 at h
  refine Rt.aload_n 0 dJ0_length_8abf5_0 rfl ?_
  refine Rt.getV hi flJ0_9 dJ0_length_8abf5_1 ?_
  refine Rt.alenT hi dJ0_length_8abf5_4 ?_
  refine Rt.aload_n 0 dJ0_length_8abf5_5 rfl ?_
  obtain ⟨q1, e1, h⟩ := bnd h
  refine Rt.cVT (mfJ0_coder_7d493 i hi _ q1 e1) lkJ0_335 hi rfl rfl ⟨Nat.le_of_ble_eq_true rfl, Nat.le_of_ble_eq_true rfl⟩ (Nat.le_of_ble_eq_true rfl) rfl dJ0_length_8abf5_6 ?_
  refine Rt.shr dJ0_length_8abf5_9 ?_
  obtain rfl := Option.some.inj h
  exact Rt.ret (v := some (.int (ishr5 (Int32.ofNat (sLen.getD i 0)) q1.1))) dJ0_length_8abf5_10 rfl rfl rfl
set_option maxRecDepth 100000 in
set_option maxHeartbeats 4000000 in
theorem mfJ0_length_8abf5 (i : Nat) (hi : i < 6) (σ : Sto) (z : Int32 × Sto) (h : fJ0_length_8abf5 i σ = some z) : AM yJ0_length_8abf5 cJ0_length_8abf5 1 (some .int) 1 20 [.ref (40 + i)] σ (some (.int z.1)) z.2 := AM.int rfl (Nat.le_of_ble_eq_true rfl) (fun X => wfJ0_length_8abf5 X i hi σ z h)
-- fJ0_isLatin1_aae02
def fJ0_isLatin1_aae02_e (i : Nat) (σ : Sto) : Option (Int32 × Sto) := if (1 : Int32) = 0 then (some ((0 : Int32), σ)) else (if (0 : Int32) = 0 then (some ((1 : Int32), σ)) else (some ((0 : Int32), σ)))
set_option maxRecDepth 100000 in
set_option maxHeartbeats 4000000 in
theorem wfJ0_isLatin1_aae02_e (X : Scr) (i : Nat) (hi : i < 6) (σ : Sto) (z : Int32 × Sto) (h : fJ0_isLatin1_aae02_e i σ = some z) : Rt X RJ0 cJ0_isLatin1_aae02 1 (rmA 0 0) .ireturn 0 [(0, .ref (40 + i))] [] σ (some (.int z.1)) z.2 := by
  unfold fJ0_isLatin1_aae02_e at h
  refine Rt.getsCS flJ0_38 dJ0_isLatin1_aae02_0 ?_
  refine Rt.if_eq 17 dJ0_isLatin1_aae02_3 (by decide) (fun c1 => ?_) (fun c1 => ?_)
  · replace h := (if_pos c1).symm.trans h
    refine Rt.iconst 0 dJ0_isLatin1_aae02_17 (by decide) ?_
    obtain rfl := Option.some.inj h
    exact Rt.ret (v := some (.int (0 : Int32))) dJ0_isLatin1_aae02_18 rfl rfl rfl
  · replace h := (if_neg c1).symm.trans h
    refine Rt.aload_n 0 dJ0_isLatin1_aae02_6 rfl ?_
    refine Rt.getC hi flJ0_15 dJ0_isLatin1_aae02_7 ?_
    refine Rt.if_ne 17 dJ0_isLatin1_aae02_10 (by decide) (fun c2 => ?_) (fun c2 => ?_)
    · replace h := (if_neg c2).symm.trans h
      refine Rt.iconst 0 dJ0_isLatin1_aae02_17 (by decide) ?_
      obtain rfl := Option.some.inj h
      exact Rt.ret (v := some (.int (0 : Int32))) dJ0_isLatin1_aae02_18 rfl rfl rfl
    · replace h := (if_pos c2).symm.trans h
      refine Rt.iconst 1 dJ0_isLatin1_aae02_13 (by decide) ?_
      refine Rt.goto 18 dJ0_isLatin1_aae02_14 (by decide) ?_
      obtain rfl := Option.some.inj h
      exact Rt.ret (v := some (.int (1 : Int32))) dJ0_isLatin1_aae02_18 rfl rfl rfl
def fJ0_isLatin1_aae02 (i : Nat) (σ : Sto) : Option (Int32 × Sto) := (fJ0_isLatin1_aae02_e i σ).bind chkZ
set_option maxRecDepth 100000 in
set_option maxHeartbeats 4000000 in
theorem mfJ0_isLatin1_aae02 (i : Nat) (hi : i < 6) (σ : Sto) (z : Int32 × Sto) (h : fJ0_isLatin1_aae02 i σ = some z) : AM yJ0_isLatin1_aae02 cJ0_isLatin1_aae02 1 (some .boolean) 0 0 [.ref (40 + i)] σ (some (.int z.1)) z.2 := by
  obtain ⟨hz, h⟩ := chkZ_ok h
  exact AM.bool hz rfl (Nat.le_of_ble_eq_true rfl) (fun X => wfJ0_isLatin1_aae02_e X i hi σ z h)
-- fJ3_checkIndex_8e157
def fJ3_checkIndex_8e157_b9 (v0 : Int32) (v1 : Int32) (σ : Sto) : Option (Int32 × Sto) := none
set_option maxRecDepth 100000 in
set_option maxHeartbeats 4000000 in
theorem wfJ3_checkIndex_8e157_b9 (X : Scr) (v0 : Int32) (v1 : Int32) (σ : Sto) (z : Int32 × Sto) (h : fJ3_checkIndex_8e157_b9 v0 v1 σ = some z) : Rt X RJ3 cJ3_checkIndex_8e157 3 (rmA 0 0) .ireturn 9 [(0, .int v0), (1, .int v1), (2, .float 0)] [] σ (some (.int z.1)) z.2 := by
  unfold fJ3_checkIndex_8e157_b9 at h
  cases h
def fJ3_checkIndex_8e157 (v0 : Int32) (v1 : Int32) (σ : Sto) : Option (Int32 × Sto) := if v0 < 0 then (fJ3_checkIndex_8e157_b9 v0 v1 σ) else (if v0 < v1 then (some (v0, σ)) else (fJ3_checkIndex_8e157_b9 v0 v1 σ))
set_option maxRecDepth 100000 in
set_option maxHeartbeats 4000000 in
theorem wfJ3_checkIndex_8e157 (X : Scr) (v0 : Int32) (v1 : Int32) (σ : Sto) (z : Int32 × Sto) (h : fJ3_checkIndex_8e157 v0 v1 σ = some z) : Rt X RJ3 cJ3_checkIndex_8e157 3 (rmA 0 0) .ireturn 0 [(0, .int v0), (1, .int v1), (2, .float 0)] [] σ (some (.int z.1)) z.2 := by
  unfold fJ3_checkIndex_8e157 at h
  refine Rt.iload_n 0 dJ3_checkIndex_8e157_0 rfl ?_
  refine Rt.if_lt 9 dJ3_checkIndex_8e157_1 (by decide) (fun c1 => ?_) (fun c1 => ?_)
  · replace h := (if_pos c1).symm.trans h
    exact wfJ3_checkIndex_8e157_b9 X v0 v1 _ z h
  · replace h := (if_neg c1).symm.trans h
    refine Rt.iload_n 0 dJ3_checkIndex_8e157_4 rfl ?_
    refine Rt.iload_n 1 dJ3_checkIndex_8e157_5 rfl ?_
    refine Rt.icmp_lt 16 dJ3_checkIndex_8e157_6 (by decide) (fun c2 => ?_) (fun c2 => ?_)
    · replace h := (if_pos c2).symm.trans h
      refine Rt.iload_n 0 dJ3_checkIndex_8e157_16 rfl ?_
      obtain rfl := Option.some.inj h
      exact Rt.ret (v := some (.int v0)) dJ3_checkIndex_8e157_17 rfl rfl rfl
    · replace h := (if_neg c2).symm.trans h
      exact wfJ3_checkIndex_8e157_b9 X v0 v1 _ z h
set_option maxRecDepth 100000 in
set_option maxHeartbeats 4000000 in
theorem mfJ3_checkIndex_8e157 (v0 : Int32) (v1 : Int32) (σ : Sto) (z : Int32 × Sto) (h : fJ3_checkIndex_8e157 v0 v1 σ = some z) : AM yJ3_checkIndex_8e157 cJ3_checkIndex_8e157 3 (some .int) 0 0 [.int v0, .int v1, .float 0] σ (some (.int z.1)) z.2 := AM.int rfl (Nat.le_of_ble_eq_true rfl) (fun X => wfJ3_checkIndex_8e157 X v0 v1 σ z h)
-- fJ0_checkIndex_df160
def fJ0_checkIndex_df160 (v0 : Int32) (v1 : Int32) (σ : Sto) : Option (Unit × Sto) := (fJ3_checkIndex_8e157 v0 v1 σ).bind fun q1 => some ((), q1.2)
set_option maxRecDepth 100000 in
set_option maxHeartbeats 4000000 in
theorem wfJ0_checkIndex_df160 (X : Scr) (v0 : Int32) (v1 : Int32) (σ : Sto) (z : Unit × Sto) (h : fJ0_checkIndex_df160 v0 v1 σ = some z) : Rt X RJ0 cJ0_checkIndex_df160 2 (rmA 1 22) .return_ 0 [(0, .int v0), (1, .int v1)] [] σ none z.2 := by
  unfold fJ0_checkIndex_df160 at h
  refine Rt.iload_n 0 dJ0_checkIndex_df160_0 rfl ?_
  refine Rt.iload_n 1 dJ0_checkIndex_df160_1 rfl ?_
  refine Rt.getsSF flJ0_1053 dJ0_checkIndex_df160_2 ?_
  obtain ⟨q1, e1, h⟩ := bnd h
  refine Rt.cS (mfJ3_checkIndex_8e157 v0 v1 _ q1 e1) lkJ0_1059 rfl ⟨Nat.le_of_ble_eq_true rfl, Nat.le_of_ble_eq_true rfl⟩ (Nat.le_of_ble_eq_true rfl) rfl dJ0_checkIndex_df160_5 ?_
  refine Rt.pop dJ0_checkIndex_df160_8 rfl ?_
  obtain rfl := Option.some.inj h
  exact Rt.ret (v := none) dJ0_checkIndex_df160_9 rfl rfl rfl
set_option maxRecDepth 100000 in
set_option maxHeartbeats 4000000 in
theorem mfJ0_checkIndex_df160 (v0 : Int32) (v1 : Int32) (σ : Sto) (z : Unit × Sto) (h : fJ0_checkIndex_df160 v0 v1 σ = some z) : AM yJ0_checkIndex_df160 cJ0_checkIndex_df160 2 none 1 22 [.int v0, .int v1] σ none z.2 := AM.void rfl (Nat.le_of_ble_eq_true rfl) (fun X => wfJ0_checkIndex_df160 X v0 v1 σ z h)
-- fJ1_charAt_3b067
def fJ1_charAt_3b067_e (y0 : Nat) (v1 : Int32) (σ : Sto) : Option (Int32 × Sto) := (fJ0_checkIndex_df160 v1 (Int32.ofNat (sLen.getD y0 0)) σ).bind fun q1 => if inb v1 (sLen.getD y0 0) = true then (some ((i2cI (((sByt.getD y0 []).getD (v1).toNatClampNeg 0) &&& (255 : Int32))), q1.2)) else none
set_option maxRecDepth 100000 in
set_option maxHeartbeats 4000000 in
theorem wfJ1_charAt_3b067_e (X : Scr) (y0 : Nat) (hy0 : y0 < 6) (v1 : Int32) (σ : Sto) (z : Int32 × Sto) (h : fJ1_charAt_3b067_e y0 v1 σ = some z) : Rt X RJ1 cJ1_charAt_3b067 2 (rmA 2 43) .ireturn 0 [(0, .ref (50 + y0)), (1, .int v1)] [] σ (some (.int z.1)) z.2 := by
  unfold fJ1_charAt_3b067_e at h
  refine Rt.iload_n 1 dJ1_charAt_3b067_0 rfl ?_
  refine Rt.aload_n 0 dJ1_charAt_3b067_1 rfl ?_
  refine Rt.alenT hy0 dJ1_charAt_3b067_2 ?_
  obtain ⟨q1, e1, h⟩ := bnd h
  refine Rt.cS0 (mfJ0_checkIndex_df160 v1 (Int32.ofNat (sLen.getD y0 0)) _ q1 e1) lkJ1_9 rfl ⟨Nat.le_of_ble_eq_true rfl, Nat.le_of_ble_eq_true rfl⟩ (Nat.le_of_ble_eq_true rfl) rfl dJ1_charAt_3b067_3 ?_
  refine Rt.aload_n 0 dJ1_charAt_3b067_6 rfl ?_
  refine Rt.iload_n 1 dJ1_charAt_3b067_7 rfl ?_
  obtain ⟨g1, h⟩ := gd h
  refine Rt.baldT hy0 g1 dJ1_charAt_3b067_8 ?_
  refine Rt.sipush 255 dJ1_charAt_3b067_9 (by decide) ?_
  refine Rt.iand dJ1_charAt_3b067_12 ?_
  refine Rt.toC dJ1_charAt_3b067_13 ?_
  obtain rfl := Option.some.inj h
  exact Rt.ret (v := some (.int (i2cI (((sByt.getD y0 []).getD (v1).toNatClampNeg 0) &&& (255 : Int32))))) dJ1_charAt_3b067_14 rfl rfl rfl
def fJ1_charAt_3b067 (y0 : Nat) (v1 : Int32) (σ : Sto) : Option (Int32 × Sto) := (fJ1_charAt_3b067_e y0 v1 σ).bind chkC
set_option maxRecDepth 100000 in
set_option maxHeartbeats 4000000 in
theorem mfJ1_charAt_3b067 (y0 : Nat) (hy0 : y0 < 6) (v1 : Int32) (σ : Sto) (z : Int32 × Sto) (h : fJ1_charAt_3b067 y0 v1 σ = some z) : AM yJ1_charAt_3b067 cJ1_charAt_3b067 2 (some .char) 2 43 [.ref (50 + y0), .int v1] σ (some (.int z.1)) z.2 := by
  obtain ⟨hz, h⟩ := chkC_ok h
  exact AM.narrow hz rfl (Nat.le_of_ble_eq_true rfl) (fun X => wfJ1_charAt_3b067_e X y0 hy0 v1 σ z h)
-- fJ0_charAt_5068e
def fJ0_charAt_5068e_e (i : Nat) (v1 : Int32) (σ : Sto) : Option (Int32 × Sto) := (fJ0_isLatin1_aae02 i σ).bind fun q1 => if q1.1 = 0 then none else ((fJ1_charAt_3b067 i v1 q1.2).bind fun q2 => some (q2.1, q2.2))
set_option maxRecDepth 100000 in
set_option maxHeartbeats 4000000 in
theorem wfJ0_charAt_5068e_e (X : Scr) (i : Nat) (hi : i < 6) (v1 : Int32) (σ : Sto) (z : Int32 × Sto) (h : fJ0_charAt_5068e_e i v1 σ = some z) : Rt X RJ0 cJ0_charAt_5068e 2 (rmA 3 64) .ireturn 0 [(0, .ref (40 + i)), (1, .int v1)] [] σ (some (.int z.1)) z.2 := by
  unfold fJ0_charAt_5068e_e at h
  refine Rt.aload_n 0 dJ0_charAt_5068e_0 rfl ?_
  obtain ⟨q1, e1, h⟩ := bnd h
  refine Rt.cVT (mfJ0_isLatin1_aae02 i hi _ q1 e1) lkJ0_492 hi rfl rfl ⟨Nat.le_of_ble_eq_true rfl, Nat.le_of_ble_eq_true rfl⟩ (Nat.le_of_ble_eq_true rfl) rfl dJ0_charAt_5068e_1 ?_
  refine Rt.if_eq 16 dJ0_charAt_5068e_4 (by decide) (fun c1 => ?_) (fun c1 => ?_)
  · replace h := (if_pos c1).symm.trans h
    refine Rt.aload_n 0 dJ0_charAt_5068e_16 rfl ?_
    refine Rt.getV hi flJ0_9 dJ0_charAt_5068e_17 ?_
    refine Rt.iload_n 1 dJ0_charAt_5068e_20 rfl ?_
    cases h
  · replace h := (if_neg c1).symm.trans h
    refine Rt.aload_n 0 dJ0_charAt_5068e_7 rfl ?_
    refine Rt.getV hi flJ0_9 dJ0_charAt_5068e_8 ?_
    refine Rt.iload_n 1 dJ0_charAt_5068e_11 rfl ?_
    obtain ⟨q2, e2, h⟩ := bnd h
    refine Rt.cS (mfJ1_charAt_3b067 i hi v1 _ q2 e2) lkJ0_495 rfl ⟨Nat.le_of_ble_eq_true rfl, Nat.le_of_ble_eq_true rfl⟩ (Nat.le_of_ble_eq_true rfl) rfl dJ0_charAt_5068e_12 ?_
    obtain rfl := Option.some.inj h
    exact Rt.ret (v := some (.int q2.1)) dJ0_charAt_5068e_15 rfl rfl rfl
def fJ0_charAt_5068e (i : Nat) (v1 : Int32) (σ : Sto) : Option (Int32 × Sto) := (fJ0_charAt_5068e_e i v1 σ).bind chkC
set_option maxRecDepth 100000 in
set_option maxHeartbeats 4000000 in
theorem mfJ0_charAt_5068e (i : Nat) (hi : i < 6) (v1 : Int32) (σ : Sto) (z : Int32 × Sto) (h : fJ0_charAt_5068e i v1 σ = some z) : AM yJ0_charAt_5068e cJ0_charAt_5068e 2 (some .char) 3 64 [.ref (40 + i), .int v1] σ (some (.int z.1)) z.2 := by
  obtain ⟨hz, h⟩ := chkC_ok h
  exact AM.narrow hz rfl (Nat.le_of_ble_eq_true rfl) (fun X => wfJ0_charAt_5068e_e X i hi v1 σ z h)
-- fJ1_canEncode_9a6ad
def fJ1_canEncode_9a6ad_e (v0 : Int32) (σ : Sto) : Option (Int32 × Sto) := if v0 < 0 then (some ((0 : Int32), σ)) else (if (255 : Int32) < v0 then (some ((0 : Int32), σ)) else (some ((1 : Int32), σ)))
set_option maxRecDepth 100000 in
set_option maxHeartbeats 4000000 in
theorem wfJ1_canEncode_9a6ad_e (X : Scr) (v0 : Int32) (σ : Sto) (z : Int32 × Sto) (h : fJ1_canEncode_9a6ad_e v0 σ = some z) : Rt X RJ1 cJ1_canEncode_9a6ad 1 (rmA 0 0) .ireturn 0 [(0, .int v0)] [] σ (some (.int z.1)) z.2 := by
  unfold fJ1_canEncode_9a6ad_e at h
  refine Rt.iload_n 0 dJ1_canEncode_9a6ad_0 rfl ?_
  refine Rt.if_lt 15 dJ1_canEncode_9a6ad_1 (by decide) (fun c1 => ?_) (fun c1 => ?_)
  · replace h := (if_pos c1).symm.trans h
    refine Rt.iconst 0 dJ1_canEncode_9a6ad_15 (by decide) ?_
    obtain rfl := Option.some.inj h
    exact Rt.ret (v := some (.int (0 : Int32))) dJ1_canEncode_9a6ad_16 rfl rfl rfl
  · replace h := (if_neg c1).symm.trans h
    refine Rt.iload_n 0 dJ1_canEncode_9a6ad_4 rfl ?_
    refine Rt.sipush 255 dJ1_canEncode_9a6ad_5 (by decide) ?_
    refine Rt.icmp_gt 15 dJ1_canEncode_9a6ad_8 (by decide) (fun c2 => ?_) (fun c2 => ?_)
    · replace h := (if_pos c2).symm.trans h
      refine Rt.iconst 0 dJ1_canEncode_9a6ad_15 (by decide) ?_
      obtain rfl := Option.some.inj h
      exact Rt.ret (v := some (.int (0 : Int32))) dJ1_canEncode_9a6ad_16 rfl rfl rfl
    · replace h := (if_neg c2).symm.trans h
      refine Rt.iconst 1 dJ1_canEncode_9a6ad_11 (by decide) ?_
      refine Rt.goto 16 dJ1_canEncode_9a6ad_12 (by decide) ?_
      obtain rfl := Option.some.inj h
      exact Rt.ret (v := some (.int (1 : Int32))) dJ1_canEncode_9a6ad_16 rfl rfl rfl
def fJ1_canEncode_9a6ad (v0 : Int32) (σ : Sto) : Option (Int32 × Sto) := (fJ1_canEncode_9a6ad_e v0 σ).bind chkZ
set_option maxRecDepth 100000 in
set_option maxHeartbeats 4000000 in
theorem mfJ1_canEncode_9a6ad (v0 : Int32) (σ : Sto) (z : Int32 × Sto) (h : fJ1_canEncode_9a6ad v0 σ = some z) : AM yJ1_canEncode_9a6ad cJ1_canEncode_9a6ad 1 (some .boolean) 0 0 [.int v0] σ (some (.int z.1)) z.2 := by
  obtain ⟨hz, h⟩ := chkZ_ok h
  exact AM.bool hz rfl (Nat.le_of_ble_eq_true rfl) (fun X => wfJ1_canEncode_9a6ad_e X v0 σ z h)
-- fJ1_indexOfChar_4cfef
def fJ1_indexOfChar_4cfef_l7 (y0 : Nat) : Nat → Int32 → Int32 → Int32 → Sto → Option (Int32 × Sto)
  | 0, _, _, _, _ => none
  | n + 1, v3, v4, v5, σ => if v3 ≤ v5 then (some ((-1 : Int32), σ)) else (if inb v5 (sLen.getD y0 0) = true then (if ((sByt.getD y0 []).getD (v5).toNatClampNeg 0) = v4 then (some (v5, σ)) else (fJ1_indexOfChar_4cfef_l7 y0 n v3 v4 (v5 + (1 : Int32)) σ)) else none)
set_option maxRecDepth 100000 in
set_option maxHeartbeats 4000000 in
theorem wfJ1_indexOfChar_4cfef_l7 (X : Scr) (y0 : Nat) (hy0 : y0 < 6) : ∀ (n : Nat) (v3 : Int32) (v4 : Int32) (v5 : Int32) (σ : Sto) (z : Int32 × Sto), fJ1_indexOfChar_4cfef_l7 y0 n v3 v4 v5 σ = some z → Rt X RJ1 cJ1_indexOfChar_4cfef 6 (rmA 0 0) .ireturn 7 [(0, .ref (50 + y0)), (3, .int v3), (4, .int v4), (5, .int v5)] [] σ (some (.int z.1)) z.2 := by
  intro n
  induction n with
  | zero =>
    intro v3 v4 v5 σ z h
    rw [fJ1_indexOfChar_4cfef_l7] at h
    cases h
  | succ n ih =>
    intro v3 v4 v5 σ z h
    rw [fJ1_indexOfChar_4cfef_l7] at h
    refine Rt.iload 3 dJ1_indexOfChar_4cfef_7 rfl ?_
    refine Rt.iload_n 1 dJ1_indexOfChar_4cfef_9 rfl ?_
    refine Rt.icmp_ge 31 dJ1_indexOfChar_4cfef_10 (by decide) (fun c1 => ?_) (fun c1 => ?_)
    · replace h := (if_pos c1).symm.trans h
      refine Rt.iconst (-1) dJ1_indexOfChar_4cfef_31 (by decide) ?_
      obtain rfl := Option.some.inj h
      exact Rt.ret (v := some (.int (-1 : Int32))) dJ1_indexOfChar_4cfef_32 rfl rfl rfl
    · replace h := (if_neg c1).symm.trans h
      refine Rt.aload_n 0 dJ1_indexOfChar_4cfef_13 rfl ?_
      refine Rt.iload 3 dJ1_indexOfChar_4cfef_14 rfl ?_
      obtain ⟨g2, h⟩ := gd h
      refine Rt.baldT hy0 g2 dJ1_indexOfChar_4cfef_16 ?_
      refine Rt.iload 2 dJ1_indexOfChar_4cfef_17 rfl ?_
      refine Rt.icmp_ne 25 dJ1_indexOfChar_4cfef_19 (by decide) (fun c3 => ?_) (fun c3 => ?_)
      · replace h := (if_neg c3).symm.trans h
        refine Rt.iinc [(5, _), (0, _), (3, _), (4, _)] (v5 + (1 : Int32)) 3 dJ1_indexOfChar_4cfef_25 rfl rfl (by decide) rfl ?_
        refine Rt.goto 7 dJ1_indexOfChar_4cfef_28 (by decide) ?_
        refine Rt.pick [1, 2, 3, 0] rfl ?_
        exact ih v3 v4 (v5 + (1 : Int32)) _ z h
      · replace h := (if_pos c3).symm.trans h
        refine Rt.iload 3 dJ1_indexOfChar_4cfef_22 rfl ?_
        obtain rfl := Option.some.inj h
        exact Rt.ret (v := some (.int v5)) dJ1_indexOfChar_4cfef_24 rfl rfl rfl
def fJ1_indexOfChar_4cfef (y0 : Nat) (v1 : Int32) (v2 : Int32) (v3 : Int32) (σ : Sto) : Option (Int32 × Sto) := fJ1_indexOfChar_4cfef_l7 y0 300 v3 (i2bI v1) v2 σ
set_option maxRecDepth 100000 in
set_option maxHeartbeats 4000000 in
theorem wfJ1_indexOfChar_4cfef (X : Scr) (y0 : Nat) (hy0 : y0 < 6) (v1 : Int32) (v2 : Int32) (v3 : Int32) (σ : Sto) (z : Int32 × Sto) (h : fJ1_indexOfChar_4cfef y0 v1 v2 v3 σ = some z) : Rt X RJ1 cJ1_indexOfChar_4cfef 6 (rmA 0 0) .ireturn 0 [(0, .ref (50 + y0)), (1, .int v1), (2, .int v2), (3, .int v3)] [] σ (some (.int z.1)) z.2 := by
  unfold fJ1_indexOfChar_4cfef at h
  refine Rt.iload_n 1 dJ1_indexOfChar_4cfef_0 rfl ?_
  refine Rt.toB dJ1_indexOfChar_4cfef_1 ?_
  refine Rt.istore [(4, _), (0, _), (1, _), (2, _), (3, _)] dJ1_indexOfChar_4cfef_2 (by decide) rfl ?_
  refine Rt.iload_n 3 dJ1_indexOfChar_4cfef_4 rfl ?_
  refine Rt.istore [(5, _), (4, _), (0, _), (1, _), (2, _), (3, _)] dJ1_indexOfChar_4cfef_5 (by decide) rfl ?_
  refine Rt.pick [2, 5, 1, 0] rfl ?_
  exact wfJ1_indexOfChar_4cfef_l7 X y0 hy0 300 v3 (i2bI v1) v2 _ z h
set_option maxRecDepth 100000 in
set_option maxHeartbeats 4000000 in
theorem mfJ1_indexOfChar_4cfef (y0 : Nat) (hy0 : y0 < 6) (v1 : Int32) (v2 : Int32) (v3 : Int32) (σ : Sto) (z : Int32 × Sto) (h : fJ1_indexOfChar_4cfef y0 v1 v2 v3 σ = some z) : AM yJ1_indexOfChar_4cfef cJ1_indexOfChar_4cfef 6 (some .int) 0 0 [.ref (50 + y0), .int v1, .int v2, .int v3] σ (some (.int z.1)) z.2 := AM.int rfl (Nat.le_of_ble_eq_true rfl) (fun X => wfJ1_indexOfChar_4cfef X y0 hy0 v1 v2 v3 σ z h)
-- fJ1_indexOf_4cfef
def fJ1_indexOf_4cfef (y0 : Nat) (v1 : Int32) (v2 : Int32) (v3 : Int32) (σ : Sto) : Option (Int32 × Sto) := (fJ1_canEncode_9a6ad v1 σ).bind fun q1 => if q1.1 = 0 then (some ((-1 : Int32), q1.2)) else (if (mxI v2 (0 : Int32)) < (mnI v3 (Int32.ofNat (sLen.getD y0 0))) then ((fJ1_indexOfChar_4cfef y0 v1 (mxI v2 (0 : Int32)) (mnI v3 (Int32.ofNat (sLen.getD y0 0))) q1.2).bind fun q2 => some (q2.1, q2.2)) else (some ((-1 : Int32), q1.2)))
set_option maxRecDepth 100000 in
set_option maxHeartbeats 4000000 in
theorem wfJ1_indexOf_4cfef (X : Scr) (y0 : Nat) (hy0 : y0 < 6) (v1 : Int32) (v2 : Int32) (v3 : Int32) (σ : Sto) (z : Int32 × Sto) (h : fJ1_indexOf_4cfef y0 v1 v2 v3 σ = some z) : Rt X RJ1 cJ1_indexOf_4cfef 4 (rmA 1 25) .ireturn 0 [(0, .ref (50 + y0)), (1, .int v1), (2, .int v2), (3, .int v3)] [] σ (some (.int z.1)) z.2 := by
  unfold fJ1_indexOf_4cfef at h
  refine Rt.iload_n 1 dJ1_indexOf_4cfef_0 rfl ?_
  obtain ⟨q1, e1, h⟩ := bnd h
  refine Rt.cS (mfJ1_canEncode_9a6ad v1 _ q1 e1) lkJ1_88 rfl ⟨Nat.le_of_ble_eq_true rfl, Nat.le_of_ble_eq_true rfl⟩ (Nat.le_of_ble_eq_true rfl) rfl dJ1_indexOf_4cfef_1 ?_
  refine Rt.if_ne 9 dJ1_indexOf_4cfef_4 (by decide) (fun c1 => ?_) (fun c1 => ?_)
  · replace h := (if_neg c1).symm.trans h
    refine Rt.iload_n 2 dJ1_indexOf_4cfef_9 rfl ?_
    refine Rt.iconst 0 dJ1_indexOf_4cfef_10 (by decide) ?_
    refine Rt.mmax mlJ1_92 smMmax iniMath cdMmax (Nat.le_of_ble_eq_true rfl) (Nat.le_of_ble_eq_true rfl) dJ1_indexOf_4cfef_11 ?_
    refine Rt.istore_n [(2, _), (0, _), (1, _), (3, _)] dJ1_indexOf_4cfef_14 (by decide) rfl ?_
    refine Rt.iload_n 3 dJ1_indexOf_4cfef_15 rfl ?_
    refine Rt.aload_n 1 dJ1_indexOf_4cfef_16 rfl ?_
    refine Rt.alenT hy0 dJ1_indexOf_4cfef_17 ?_
    refine Rt.mmin mlJ1_38 smMmin iniMath cdMmin (Nat.le_of_ble_eq_true rfl) (Nat.le_of_ble_eq_true rfl) dJ1_indexOf_4cfef_18 ?_
    refine Rt.istore_n [(3, _), (2, _), (0, _), (1, _)] dJ1_indexOf_4cfef_21 (by decide) rfl ?_
    refine Rt.iload_n 1 dJ1_indexOf_4cfef_22 rfl ?_
    refine Rt.iload_n 0 dJ1_indexOf_4cfef_23 rfl ?_
    refine Rt.icmp_lt 29 dJ1_indexOf_4cfef_24 (by decide) (fun c2 => ?_) (fun c2 => ?_)
    · replace h := (if_pos c2).symm.trans h
      refine Rt.aload_n 2 dJ1_indexOf_4cfef_29 rfl ?_
      refine Rt.iload_n 3 dJ1_indexOf_4cfef_30 rfl ?_
      refine Rt.iload_n 1 dJ1_indexOf_4cfef_31 rfl ?_
      refine Rt.iload_n 0 dJ1_indexOf_4cfef_32 rfl ?_
      obtain ⟨q2, e2, h⟩ := bnd h
      refine Rt.cS (mfJ1_indexOfChar_4cfef y0 hy0 v1 (mxI v2 (0 : Int32)) (mnI v3 (Int32.ofNat (sLen.getD y0 0))) _ q2 e2) lkJ1_95 rfl ⟨Nat.le_of_ble_eq_true rfl, Nat.le_of_ble_eq_true rfl⟩ (Nat.le_of_ble_eq_true rfl) rfl dJ1_indexOf_4cfef_33 ?_
      obtain rfl := Option.some.inj h
      exact Rt.ret (v := some (.int q2.1)) dJ1_indexOf_4cfef_36 rfl rfl rfl
    · replace h := (if_neg c2).symm.trans h
      refine Rt.iconst (-1) dJ1_indexOf_4cfef_27 (by decide) ?_
      obtain rfl := Option.some.inj h
      exact Rt.ret (v := some (.int (-1 : Int32))) dJ1_indexOf_4cfef_28 rfl rfl rfl
  · replace h := (if_pos c1).symm.trans h
    refine Rt.iconst (-1) dJ1_indexOf_4cfef_7 (by decide) ?_
    obtain rfl := Option.some.inj h
    exact Rt.ret (v := some (.int (-1 : Int32))) dJ1_indexOf_4cfef_8 rfl rfl rfl
set_option maxRecDepth 100000 in
set_option maxHeartbeats 4000000 in
theorem mfJ1_indexOf_4cfef (y0 : Nat) (hy0 : y0 < 6) (v1 : Int32) (v2 : Int32) (v3 : Int32) (σ : Sto) (z : Int32 × Sto) (h : fJ1_indexOf_4cfef y0 v1 v2 v3 σ = some z) : AM yJ1_indexOf_4cfef cJ1_indexOf_4cfef 4 (some .int) 1 25 [.ref (50 + y0), .int v1, .int v2, .int v3] σ (some (.int z.1)) z.2 := AM.int rfl (Nat.le_of_ble_eq_true rfl) (fun X => wfJ1_indexOf_4cfef X y0 hy0 v1 v2 v3 σ z h)
-- fJ0_indexOf_7cf53
def fJ0_indexOf_7cf53 (i : Nat) (v1 : Int32) (v2 : Int32) (σ : Sto) : Option (Int32 × Sto) := (fJ0_isLatin1_aae02 i σ).bind fun q1 => if q1.1 = 0 then ((fJ0_length_8abf5 i q1.2).bind fun q2 => none) else ((fJ0_length_8abf5 i q1.2).bind fun q3 => (fJ1_indexOf_4cfef i v1 v2 q3.1 q3.2).bind fun q4 => some (q4.1, q4.2))
set_option maxRecDepth 100000 in
set_option maxHeartbeats 4000000 in
theorem wfJ0_indexOf_7cf53 (X : Scr) (i : Nat) (hi : i < 6) (v1 : Int32) (v2 : Int32) (σ : Sto) (z : Int32 × Sto) (h : fJ0_indexOf_7cf53 i v1 v2 σ = some z) : Rt X RJ0 cJ0_indexOf_7cf53 3 (rmA 2 48) .ireturn 0 [(0, .ref (40 + i)), (1, .int v1), (2, .int v2)] [] σ (some (.int z.1)) z.2 := by
  unfold fJ0_indexOf_7cf53 at h
  refine Rt.aload_n 0 dJ0_indexOf_7cf53_0 rfl ?_
  obtain ⟨q1, e1, h⟩ := bnd h
  refine Rt.cVT (mfJ0_isLatin1_aae02 i hi _ q1 e1) lkJ0_492 hi rfl rfl ⟨Nat.le_of_ble_eq_true rfl, Nat.le_of_ble_eq_true rfl⟩ (Nat.le_of_ble_eq_true rfl) rfl dJ0_indexOf_7cf53_1 ?_
  refine Rt.if_eq 23 dJ0_indexOf_7cf53_4 (by decide) (fun c1 => ?_) (fun c1 => ?_)
  · replace h := (if_pos c1).symm.trans h
    refine Rt.aload_n 0 dJ0_indexOf_7cf53_23 rfl ?_
    refine Rt.getV hi flJ0_9 dJ0_indexOf_7cf53_24 ?_
    refine Rt.iload_n 1 dJ0_indexOf_7cf53_27 rfl ?_
    refine Rt.iload_n 2 dJ0_indexOf_7cf53_28 rfl ?_
    refine Rt.aload_n 0 dJ0_indexOf_7cf53_29 rfl ?_
    obtain ⟨q2, e2, h⟩ := bnd h
    refine Rt.cVT (mfJ0_length_8abf5 i hi _ q2 e2) lkJ0_505 hi rfl rfl ⟨Nat.le_of_ble_eq_true rfl, Nat.le_of_ble_eq_true rfl⟩ (Nat.le_of_ble_eq_true rfl) rfl dJ0_indexOf_7cf53_30 ?_
    cases h
  · replace h := (if_neg c1).symm.trans h
    refine Rt.aload_n 0 dJ0_indexOf_7cf53_7 rfl ?_
    refine Rt.getV hi flJ0_9 dJ0_indexOf_7cf53_8 ?_
    refine Rt.iload_n 1 dJ0_indexOf_7cf53_11 rfl ?_
    refine Rt.iload_n 2 dJ0_indexOf_7cf53_12 rfl ?_
    refine Rt.aload_n 0 dJ0_indexOf_7cf53_13 rfl ?_
    obtain ⟨q3, e3, h⟩ := bnd h
    refine Rt.cVT (mfJ0_length_8abf5 i hi _ q3 e3) lkJ0_505 hi rfl rfl ⟨Nat.le_of_ble_eq_true rfl, Nat.le_of_ble_eq_true rfl⟩ (Nat.le_of_ble_eq_true rfl) rfl dJ0_indexOf_7cf53_14 ?_
    obtain ⟨q4, e4, h⟩ := bnd h
    refine Rt.cS (mfJ1_indexOf_4cfef i hi v1 v2 q3.1 _ q4 e4) lkJ0_637 rfl ⟨Nat.le_of_ble_eq_true rfl, Nat.le_of_ble_eq_true rfl⟩ (Nat.le_of_ble_eq_true rfl) rfl dJ0_indexOf_7cf53_17 ?_
    refine Rt.goto 36 dJ0_indexOf_7cf53_20 (by decide) ?_
    obtain rfl := Option.some.inj h
    exact Rt.ret (v := some (.int q4.1)) dJ0_indexOf_7cf53_36 rfl rfl rfl
set_option maxRecDepth 100000 in
set_option maxHeartbeats 4000000 in
theorem mfJ0_indexOf_7cf53 (i : Nat) (hi : i < 6) (v1 : Int32) (v2 : Int32) (σ : Sto) (z : Int32 × Sto) (h : fJ0_indexOf_7cf53 i v1 v2 σ = some z) : AM yJ0_indexOf_7cf53 cJ0_indexOf_7cf53 3 (some .int) 2 48 [.ref (40 + i), .int v1, .int v2] σ (some (.int z.1)) z.2 := AM.int rfl (Nat.le_of_ble_eq_true rfl) (fun X => wfJ0_indexOf_7cf53 X i hi v1 v2 σ z h)
-- fJ0_indexOf_0f7a4
def fJ0_indexOf_0f7a4 (i : Nat) (v1 : Int32) (σ : Sto) : Option (Int32 × Sto) := (fJ0_indexOf_7cf53 i v1 (0 : Int32) σ).bind fun q1 => some (q1.1, q1.2)
set_option maxRecDepth 100000 in
set_option maxHeartbeats 4000000 in
theorem wfJ0_indexOf_0f7a4 (X : Scr) (i : Nat) (hi : i < 6) (v1 : Int32) (σ : Sto) (z : Int32 × Sto) (h : fJ0_indexOf_0f7a4 i v1 σ = some z) : Rt X RJ0 cJ0_indexOf_0f7a4 2 (rmA 3 70) .ireturn 0 [(0, .ref (40 + i)), (1, .int v1)] [] σ (some (.int z.1)) z.2 := by
  unfold fJ0_indexOf_0f7a4 at h
  refine Rt.aload_n 0 dJ0_indexOf_0f7a4_0 rfl ?_
  refine Rt.iload_n 1 dJ0_indexOf_0f7a4_1 rfl ?_
  refine Rt.iconst 0 dJ0_indexOf_0f7a4_2 (by decide) ?_
  obtain ⟨q1, e1, h⟩ := bnd h
  refine Rt.cVT (mfJ0_indexOf_7cf53 i hi v1 (0 : Int32) _ q1 e1) lkJ0_633 hi rfl rfl ⟨Nat.le_of_ble_eq_true rfl, Nat.le_of_ble_eq_true rfl⟩ (Nat.le_of_ble_eq_true rfl) rfl dJ0_indexOf_0f7a4_3 ?_
  obtain rfl := Option.some.inj h
  exact Rt.ret (v := some (.int q1.1)) dJ0_indexOf_0f7a4_6 rfl rfl rfl
set_option maxRecDepth 100000 in
set_option maxHeartbeats 4000000 in
theorem mfJ0_indexOf_0f7a4 (i : Nat) (hi : i < 6) (v1 : Int32) (σ : Sto) (z : Int32 × Sto) (h : fJ0_indexOf_0f7a4 i v1 σ = some z) : AM yJ0_indexOf_0f7a4 cJ0_indexOf_0f7a4 2 (some .int) 3 70 [.ref (40 + i), .int v1] σ (some (.int z.1)) z.2 := AM.int rfl (Nat.le_of_ble_eq_true rfl) (fun X => wfJ0_indexOf_0f7a4 X i hi v1 σ z h)
-- fX2_fits
def fX2_fits_e (v0 : Int32) (v1 : Int32) (σ : Sto) : Option (Int32 × Sto) := if v0 = 100 then (if v1 < (48 : Int32) then (some ((0 : Int32), σ)) else (if (57 : Int32) < v1 then (some ((0 : Int32), σ)) else (some ((1 : Int32), σ)))) else (if v0 = 107 then (if v1 < 0 then (some ((0 : Int32), σ)) else ((fJ0_indexOf_0f7a4 5 (i2cI v1) σ).bind fun q1 => if q1.1 < 0 then (some ((0 : Int32), q1.2)) else (some ((1 : Int32), q1.2)))) else (if v1 = v0 then (some ((1 : Int32), σ)) else (some ((0 : Int32), σ))))
set_option maxRecDepth 100000 in
set_option maxHeartbeats 4000000 in
theorem wfX2_fits_e (X : Scr) (v0 : Int32) (v1 : Int32) (σ : Sto) (z : Int32 × Sto) (h : fX2_fits_e v0 v1 σ = some z) : Rt X RX2 cX2_fits 2 (rmA 4 91) .ireturn 0 [(0, .int v0), (1, .int v1)] [] σ (some (.int z.1)) z.2 := by
  unfold fX2_fits_e at h
  refine Rt.iload_n 0 dX2_fits_0 rfl ?_
  by_cases sw1_0 : v0 = 100
  · replace h := (if_pos sw1_0).symm.trans h
    refine Rt.lsw 48 dX2_fits_1 (by decide) (by rw [sw1_0] <;> rfl) (by decide) ?_
    refine Rt.iload_n 1 dX2_fits_48 rfl ?_
    refine Rt.bipush 48 dX2_fits_49 (by decide) ?_
    refine Rt.icmp_lt 64 dX2_fits_51 (by decide) (fun c2 => ?_) (fun c2 => ?_)
    · replace h := (if_pos c2).symm.trans h
      refine Rt.iconst 0 dX2_fits_64 (by decide) ?_
      obtain rfl := Option.some.inj h
      exact Rt.ret (v := some (.int (0 : Int32))) dX2_fits_65 rfl rfl rfl
    · replace h := (if_neg c2).symm.trans h
      refine Rt.iload_n 1 dX2_fits_54 rfl ?_
      refine Rt.bipush 57 dX2_fits_55 (by decide) ?_
      refine Rt.icmp_gt 64 dX2_fits_57 (by decide) (fun c3 => ?_) (fun c3 => ?_)
      · replace h := (if_pos c3).symm.trans h
        refine Rt.iconst 0 dX2_fits_64 (by decide) ?_
        obtain rfl := Option.some.inj h
        exact Rt.ret (v := some (.int (0 : Int32))) dX2_fits_65 rfl rfl rfl
      · replace h := (if_neg c3).symm.trans h
        refine Rt.iconst 1 dX2_fits_60 (by decide) ?_
        refine Rt.goto 65 dX2_fits_61 (by decide) ?_
        obtain rfl := Option.some.inj h
        exact Rt.ret (v := some (.int (1 : Int32))) dX2_fits_65 rfl rfl rfl
  · replace h := (if_neg sw1_0).symm.trans h
    by_cases sw1_1 : v0 = 107
    · replace h := (if_pos sw1_1).symm.trans h
      refine Rt.lsw 28 dX2_fits_1 (by decide) (by rw [sw1_1] <;> rfl) (by decide) ?_
      refine Rt.iload_n 1 dX2_fits_28 rfl ?_
      refine Rt.if_lt 46 dX2_fits_29 (by decide) (fun c4 => ?_) (fun c4 => ?_)
      · replace h := (if_pos c4).symm.trans h
        refine Rt.iconst 0 dX2_fits_46 (by decide) ?_
        obtain rfl := Option.some.inj h
        exact Rt.ret (v := some (.int (0 : Int32))) dX2_fits_47 rfl rfl rfl
      · replace h := (if_neg c4).symm.trans h
        refine Rt.ldcT 5 (by decide) rfl rfl dX2_fits_32 ?_
        refine Rt.iload_n 1 dX2_fits_34 rfl ?_
        refine Rt.toC dX2_fits_35 ?_
        obtain ⟨q1, e1, h⟩ := bnd h
        refine Rt.cVT (mfJ0_indexOf_0f7a4 5 (by decide) (i2cI v1) _ q1 e1) lkX2_64 (by decide) rfl rfl ⟨Nat.le_of_ble_eq_true rfl, Nat.le_of_ble_eq_true rfl⟩ (Nat.le_of_ble_eq_true rfl) rfl dX2_fits_36 ?_
        refine Rt.if_lt 46 dX2_fits_39 (by decide) (fun c5 => ?_) (fun c5 => ?_)
        · replace h := (if_pos c5).symm.trans h
          refine Rt.iconst 0 dX2_fits_46 (by decide) ?_
          obtain rfl := Option.some.inj h
          exact Rt.ret (v := some (.int (0 : Int32))) dX2_fits_47 rfl rfl rfl
        · replace h := (if_neg c5).symm.trans h
          refine Rt.iconst 1 dX2_fits_42 (by decide) ?_
          refine Rt.goto 47 dX2_fits_43 (by decide) ?_
          obtain rfl := Option.some.inj h
          exact Rt.ret (v := some (.int (1 : Int32))) dX2_fits_47 rfl rfl rfl
    · replace h := (if_neg sw1_1).symm.trans h
      have w0 := nti 100 (k := 100) rfl sw1_0
      have w1 := nti 107 (k := 107) rfl sw1_1
      refine Rt.lswOut 66 dX2_fits_1 (by decide) (fun q hq => by simp at hq; rcases hq with e | e <;> subst e <;> first | exact Ne.symm w0 | exact Ne.symm w1) (by decide) ?_
      refine Rt.iload_n 1 dX2_fits_66 rfl ?_
      refine Rt.iload_n 0 dX2_fits_67 rfl ?_
      refine Rt.icmp_ne 75 dX2_fits_68 (by decide) (fun c6 => ?_) (fun c6 => ?_)
      · replace h := (if_neg c6).symm.trans h
        refine Rt.iconst 0 dX2_fits_75 (by decide) ?_
        obtain rfl := Option.some.inj h
        exact Rt.ret (v := some (.int (0 : Int32))) dX2_fits_76 rfl rfl rfl
      · replace h := (if_pos c6).symm.trans h
        refine Rt.iconst 1 dX2_fits_71 (by decide) ?_
        refine Rt.goto 76 dX2_fits_72 (by decide) ?_
        obtain rfl := Option.some.inj h
        exact Rt.ret (v := some (.int (1 : Int32))) dX2_fits_76 rfl rfl rfl
def fX2_fits (v0 : Int32) (v1 : Int32) (σ : Sto) : Option (Int32 × Sto) := (fX2_fits_e v0 v1 σ).bind chkZ
set_option maxRecDepth 100000 in
set_option maxHeartbeats 4000000 in
theorem mfX2_fits (v0 : Int32) (v1 : Int32) (σ : Sto) (z : Int32 × Sto) (h : fX2_fits v0 v1 σ = some z) : AM yX2_fits cX2_fits 2 (some .boolean) 4 91 [.int v0, .int v1] σ (some (.int z.1)) z.2 := by
  obtain ⟨hz, h⟩ := chkZ_ok h
  exact AM.bool hz rfl (Nat.le_of_ble_eq_true rfl) (fun X => wfX2_fits_e X v0 v1 σ z h)
-- fX2_firstWrong
def fX2_firstWrong_l48 (k13 : Int32 → Int32 → Sto → Option (Int32 × Sto)) : Nat → Int32 → Int32 → Nat → Int32 → Sto → Option (Int32 × Sto)
  | 0, _, _, _, _, _ => none
  | n + 1, v1, v2, v3, v4, σ => if v3 < 6 then ((fJ0_length_8abf5 v3 σ).bind fun q4 => if q4.1 ≤ v4 then (k13 (v1 + (1 : Int32)) (v2 + (1 : Int32)) q4.2) else (if v3 < 6 then ((fJ0_charAt_5068e v3 v4 q4.2).bind fun q5 => (fX2_letterAt (v1 + (1 : Int32)) q5.2).bind fun q6 => (fX2_fits q5.1 q6.1 q6.2).bind fun q7 => if q7.1 = 0 then (some ((v1 + (1 : Int32)), q7.2)) else (fX2_firstWrong_l48 k13 n (v1 + (1 : Int32)) v2 v3 (v4 + (1 : Int32)) q7.2)) else none)) else none
set_option maxRecDepth 100000 in
set_option maxHeartbeats 4000000 in
theorem wfX2_firstWrong_l48 (X : Scr) (k13 : Int32 → Int32 → Sto → Option (Int32 × Sto)) (hk13 : ∀ (v1 : Int32) (v2 : Int32) (σ : Sto) (z : Int32 × Sto), k13 v1 v2 σ = some z → Rt X RX2 cX2_firstWrong 5 (rmA 5 112) .ireturn 13 [(0, .ref 9), (1, .int v1), (2, .int v2)] [] σ (some (.int z.1)) z.2) : ∀ (n : Nat) (v1 : Int32) (v2 : Int32) (v3 : Nat) (v4 : Int32) (σ : Sto) (z : Int32 × Sto), fX2_firstWrong_l48 k13 n v1 v2 v3 v4 σ = some z → Rt X RX2 cX2_firstWrong 5 (rmA 5 112) .ireturn 48 [(0, .ref 9), (1, .int v1), (2, .int v2), (3, .ref (40 + v3)), (4, .int v4)] [] σ (some (.int z.1)) z.2 := by
  intro n
  induction n with
  | zero =>
    intro v1 v2 v3 v4 σ z h
    rw [fX2_firstWrong_l48] at h
    cases h
  | succ n ih =>
    intro v1 v2 v3 v4 σ z h
    rw [fX2_firstWrong_l48] at h
    refine Rt.iload 4 dX2_firstWrong_48 rfl ?_
    refine Rt.aload_n 3 dX2_firstWrong_50 rfl ?_
    obtain ⟨g6, h⟩ := gd h
    obtain ⟨q4, e4, h⟩ := bnd h
    refine Rt.cVT (mfJ0_length_8abf5 v3 g6 _ q4 e4) lkX2_35 g6 rfl rfl ⟨Nat.le_of_ble_eq_true rfl, Nat.le_of_ble_eq_true rfl⟩ (Nat.le_of_ble_eq_true rfl) rfl dX2_firstWrong_51 ?_
    refine Rt.icmp_ge 85 dX2_firstWrong_54 (by decide) (fun c7 => ?_) (fun c7 => ?_)
    · replace h := (if_pos c7).symm.trans h
      refine Rt.iinc [(1, _), (0, _), (2, _), (3, _), (4, _)] (v1 + (1 : Int32)) 1 dX2_firstWrong_85 rfl rfl (by decide) rfl ?_
      refine Rt.iinc [(2, _), (1, _), (0, _), (3, _), (4, _)] (v2 + (1 : Int32)) 2 dX2_firstWrong_88 rfl rfl (by decide) rfl ?_
      refine Rt.goto 13 dX2_firstWrong_91 (by decide) ?_
      refine Rt.pick [2, 1, 0] rfl ?_
      exact hk13 (v1 + (1 : Int32)) (v2 + (1 : Int32)) _ z h
    · replace h := (if_neg c7).symm.trans h
      refine Rt.iinc [(1, _), (0, _), (2, _), (3, _), (4, _)] (v1 + (1 : Int32)) 1 dX2_firstWrong_57 rfl rfl (by decide) rfl ?_
      refine Rt.aload_n 3 dX2_firstWrong_60 rfl ?_
      refine Rt.iload 4 dX2_firstWrong_61 rfl ?_
      obtain ⟨g8, h⟩ := gd h
      obtain ⟨q5, e5, h⟩ := bnd h
      refine Rt.cVT (mfJ0_charAt_5068e v3 g8 v4 _ q5 e5) lkX2_44 g8 rfl rfl ⟨Nat.le_of_ble_eq_true rfl, Nat.le_of_ble_eq_true rfl⟩ (Nat.le_of_ble_eq_true rfl) rfl dX2_firstWrong_63 ?_
      refine Rt.aload_n 1 dX2_firstWrong_66 rfl ?_
      refine Rt.iload_n 0 dX2_firstWrong_67 rfl ?_
      obtain ⟨q6, e6, h⟩ := bnd h
      refine Rt.cV (mfX2_letterAt (v1 + (1 : Int32)) _ q6 e6) lkX2_27 ly9 rfl rfl rfl ⟨Nat.le_of_ble_eq_true rfl, Nat.le_of_ble_eq_true rfl⟩ (Nat.le_of_ble_eq_true rfl) rfl dX2_firstWrong_68 ?_
      obtain ⟨q7, e7, h⟩ := bnd h
      refine Rt.cS (mfX2_fits q5.1 q6.1 _ q7 e7) lkX2_48 rfl ⟨Nat.le_of_ble_eq_true rfl, Nat.le_of_ble_eq_true rfl⟩ (Nat.le_of_ble_eq_true rfl) rfl dX2_firstWrong_71 ?_
      refine Rt.if_ne 79 dX2_firstWrong_74 (by decide) (fun c9 => ?_) (fun c9 => ?_)
      · replace h := (if_neg c9).symm.trans h
        refine Rt.iinc [(4, _), (1, _), (0, _), (2, _), (3, _)] (v4 + (1 : Int32)) 4 dX2_firstWrong_79 rfl rfl (by decide) rfl ?_
        refine Rt.goto 48 dX2_firstWrong_82 (by decide) ?_
        refine Rt.pick [2, 1, 3, 4, 0] rfl ?_
        exact ih (v1 + (1 : Int32)) v2 v3 (v4 + (1 : Int32)) _ z h
      · replace h := (if_pos c9).symm.trans h
        refine Rt.iload_n 0 dX2_firstWrong_77 rfl ?_
        obtain rfl := Option.some.inj h
        exact Rt.ret (v := some (.int (v1 + (1 : Int32)))) dX2_firstWrong_78 rfl rfl rfl
def fX2_firstWrong_l13 : Nat → Int32 → Int32 → Sto → Option (Int32 × Sto)
  | 0, _, _, _ => none
  | n + 1, v1, v2, σ => if (80 : Int32) ≤ v2 then (some ((-1 : Int32), σ)) else (if (σ 9 1) ≤ v1 then (some ((-1 : Int32), σ)) else ((fX2_letterAt v1 σ).bind fun q1 => (fX2_shapeOf q1.1 q1.2).bind fun q2 => if q2.1 < 6 then ((fJ0_isEmpty_aae02 q2.1 q2.2).bind fun q3 => if q3.1 = 0 then (fX2_firstWrong_l48 (fun a0 a1 s => fX2_firstWrong_l13 n a0 a1 s) 300 v1 v2 q2.1 (0 : Int32) q3.2) else (some (v1, q3.2))) else none))
set_option maxRecDepth 100000 in
set_option maxHeartbeats 4000000 in
theorem wfX2_firstWrong_l13 (X : Scr) : ∀ (n : Nat) (v1 : Int32) (v2 : Int32) (σ : Sto) (z : Int32 × Sto), fX2_firstWrong_l13 n v1 v2 σ = some z → Rt X RX2 cX2_firstWrong 5 (rmA 5 112) .ireturn 13 [(0, .ref 9), (1, .int v1), (2, .int v2)] [] σ (some (.int z.1)) z.2 := by
  intro n
  induction n with
  | zero =>
    intro v1 v2 σ z h
    rw [fX2_firstWrong_l13] at h
    cases h
  | succ n ih =>
    intro v1 v2 σ z h
    rw [fX2_firstWrong_l13] at h
    refine Rt.iload_n 2 dX2_firstWrong_13 rfl ?_
    refine Rt.bipush 80 dX2_firstWrong_14 (by decide) ?_
    refine Rt.icmp_ge 94 dX2_firstWrong_16 (by decide) (fun c2 => ?_) (fun c2 => ?_)
    · replace h := (if_pos c2).symm.trans h
      refine Rt.iconst (-1) dX2_firstWrong_94 (by decide) ?_
      obtain rfl := Option.some.inj h
      exact Rt.ret (v := some (.int (-1 : Int32))) dX2_firstWrong_95 rfl rfl rfl
    · replace h := (if_neg c2).symm.trans h
      refine Rt.iload_n 1 dX2_firstWrong_19 rfl ?_
      refine Rt.aload_n 0 dX2_firstWrong_20 rfl ?_
      refine gfX2_15 ly9 dX2_firstWrong_21 ?_
      refine Rt.icmp_ge 94 dX2_firstWrong_24 (by decide) (fun c3 => ?_) (fun c3 => ?_)
      · replace h := (if_pos c3).symm.trans h
        refine Rt.iconst (-1) dX2_firstWrong_94 (by decide) ?_
        obtain rfl := Option.some.inj h
        exact Rt.ret (v := some (.int (-1 : Int32))) dX2_firstWrong_95 rfl rfl rfl
      · replace h := (if_neg c3).symm.trans h
        refine Rt.aload_n 0 dX2_firstWrong_27 rfl ?_
        refine Rt.iload_n 1 dX2_firstWrong_28 rfl ?_
        obtain ⟨q1, e1, h⟩ := bnd h
        refine Rt.cV (mfX2_letterAt v1 _ q1 e1) lkX2_27 ly9 rfl rfl rfl ⟨Nat.le_of_ble_eq_true rfl, Nat.le_of_ble_eq_true rfl⟩ (Nat.le_of_ble_eq_true rfl) rfl dX2_firstWrong_29 ?_
        obtain ⟨q2, e2, h⟩ := bnd h
        refine Rt.cS (mfX2_shapeOf q1.1 _ q2 e2) lkX2_31 rfl ⟨Nat.le_of_ble_eq_true rfl, Nat.le_of_ble_eq_true rfl⟩ (Nat.le_of_ble_eq_true rfl) rfl dX2_firstWrong_32 ?_
        refine Rt.astore_n [(3, _), (0, _), (1, _), (2, _)] dX2_firstWrong_35 (by decide) rfl ?_
        refine Rt.aload_n 0 dX2_firstWrong_36 rfl ?_
        obtain ⟨g4, h⟩ := gd h
        obtain ⟨q3, e3, h⟩ := bnd h
        refine Rt.cVT (mfJ0_isEmpty_aae02 q2.1 g4 _ q3 e3) lkX2_40 g4 rfl rfl ⟨Nat.le_of_ble_eq_true rfl, Nat.le_of_ble_eq_true rfl⟩ (Nat.le_of_ble_eq_true rfl) rfl dX2_firstWrong_37 ?_
        refine Rt.if_eq 45 dX2_firstWrong_40 (by decide) (fun c5 => ?_) (fun c5 => ?_)
        · replace h := (if_pos c5).symm.trans h
          refine Rt.iconst 0 dX2_firstWrong_45 (by decide) ?_
          refine Rt.istore [(4, _), (3, _), (0, _), (1, _), (2, _)] dX2_firstWrong_46 (by decide) rfl ?_
          refine Rt.pick [2, 3, 4, 1, 0] rfl ?_
          exact wfX2_firstWrong_l48 X (fun a0 a1 s => fX2_firstWrong_l13 n a0 a1 s) ih 300 v1 v2 q2.1 (0 : Int32) _ z h
        · replace h := (if_neg c5).symm.trans h
          refine Rt.iload_n 2 dX2_firstWrong_43 rfl ?_
          obtain rfl := Option.some.inj h
          exact Rt.ret (v := some (.int v1)) dX2_firstWrong_44 rfl rfl rfl
def fX2_firstWrong (σ : Sto) : Option (Int32 × Sto) := if (σ 9 1) = 0 then (some ((0 : Int32), σ)) else (fX2_firstWrong_l13 300 (0 : Int32) (0 : Int32) σ)
set_option maxRecDepth 100000 in
set_option maxHeartbeats 4000000 in
theorem wfX2_firstWrong (X : Scr) (σ : Sto) (z : Int32 × Sto) (h : fX2_firstWrong σ = some z) : Rt X RX2 cX2_firstWrong 5 (rmA 5 112) .ireturn 0 [(0, .ref 9)] [] σ (some (.int z.1)) z.2 := by
  unfold fX2_firstWrong at h
  refine Rt.aload_n 0 dX2_firstWrong_0 rfl ?_
  refine gfX2_15 ly9 dX2_firstWrong_1 ?_
  refine Rt.if_ne 9 dX2_firstWrong_4 (by decide) (fun c1 => ?_) (fun c1 => ?_)
  · replace h := (if_neg c1).symm.trans h
    refine Rt.iconst 0 dX2_firstWrong_9 (by decide) ?_
    refine Rt.istore_n [(1, _), (0, _)] dX2_firstWrong_10 (by decide) rfl ?_
    refine Rt.iconst 0 dX2_firstWrong_11 (by decide) ?_
    refine Rt.istore_n [(2, _), (1, _), (0, _)] dX2_firstWrong_12 (by decide) rfl ?_
    refine Rt.pick [2, 1, 0] rfl ?_
    exact wfX2_firstWrong_l13 X 300 (0 : Int32) (0 : Int32) _ z h
  · replace h := (if_pos c1).symm.trans h
    refine Rt.iconst 0 dX2_firstWrong_7 (by decide) ?_
    obtain rfl := Option.some.inj h
    exact Rt.ret (v := some (.int (0 : Int32))) dX2_firstWrong_8 rfl rfl rfl
set_option maxRecDepth 100000 in
set_option maxHeartbeats 4000000 in
theorem mfX2_firstWrong (σ : Sto) (z : Int32 × Sto) (h : fX2_firstWrong σ = some z) : AM yX2_firstWrong cX2_firstWrong 5 (some .int) 5 112 [.ref 9] σ (some (.int z.1)) z.2 := AM.int rfl (Nat.le_of_ble_eq_true rfl) (fun X => wfX2_firstWrong X σ z h)
-- fX2_digitAt
def fX2_digitAt (v1 : Int32) (σ : Sto) : Option (Int32 × Sto) := (fX2_letterAt v1 σ).bind fun q1 => some ((q1.1 - (48 : Int32)), q1.2)
set_option maxRecDepth 100000 in
set_option maxHeartbeats 4000000 in
theorem wfX2_digitAt (X : Scr) (v1 : Int32) (σ : Sto) (z : Int32 × Sto) (h : fX2_digitAt v1 σ = some z) : Rt X RX2 cX2_digitAt 2 (rmA 1 21) .ireturn 0 [(0, .ref 9), (1, .int v1)] [] σ (some (.int z.1)) z.2 := by
  unfold fX2_digitAt at h
  refine Rt.aload_n 0 dX2_digitAt_0 rfl ?_
  refine Rt.iload_n 1 dX2_digitAt_1 rfl ?_
  obtain ⟨q1, e1, h⟩ := bnd h
  refine Rt.cV (mfX2_letterAt v1 _ q1 e1) lkX2_27 ly9 rfl rfl rfl ⟨Nat.le_of_ble_eq_true rfl, Nat.le_of_ble_eq_true rfl⟩ (Nat.le_of_ble_eq_true rfl) rfl dX2_digitAt_2 ?_
  refine Rt.bipush 48 dX2_digitAt_5 (by decide) ?_
  refine Rt.isub dX2_digitAt_7 ?_
  obtain rfl := Option.some.inj h
  exact Rt.ret (v := some (.int (q1.1 - (48 : Int32)))) dX2_digitAt_8 rfl rfl rfl
set_option maxRecDepth 100000 in
set_option maxHeartbeats 4000000 in
theorem mfX2_digitAt (v1 : Int32) (σ : Sto) (z : Int32 × Sto) (h : fX2_digitAt v1 σ = some z) : AM yX2_digitAt cX2_digitAt 2 (some .int) 1 21 [.ref 9, .int v1] σ (some (.int z.1)) z.2 := AM.int rfl (Nat.le_of_ble_eq_true rfl) (fun X => wfX2_digitAt X v1 σ z h)
-- fX3_within
def fX3_within_e (v0 : Int32) (v1 : Int32) (v2 : Int32) (σ : Sto) : Option (Int32 × Sto) := if v0 < v1 then (some ((0 : Int32), σ)) else (if v2 < v0 then (some ((0 : Int32), σ)) else (some ((1 : Int32), σ)))
set_option maxRecDepth 100000 in
set_option maxHeartbeats 4000000 in
theorem wfX3_within_e (X : Scr) (v0 : Int32) (v1 : Int32) (v2 : Int32) (σ : Sto) (z : Int32 × Sto) (h : fX3_within_e v0 v1 v2 σ = some z) : Rt X RX3 cX3_within 3 (rmA 0 0) .ireturn 0 [(0, .int v0), (1, .int v1), (2, .int v2)] [] σ (some (.int z.1)) z.2 := by
  unfold fX3_within_e at h
  refine Rt.iload_n 0 dX3_within_0 rfl ?_
  refine Rt.iload_n 1 dX3_within_1 rfl ?_
  refine Rt.icmp_lt 14 dX3_within_2 (by decide) (fun c1 => ?_) (fun c1 => ?_)
  · replace h := (if_pos c1).symm.trans h
    refine Rt.iconst 0 dX3_within_14 (by decide) ?_
    obtain rfl := Option.some.inj h
    exact Rt.ret (v := some (.int (0 : Int32))) dX3_within_15 rfl rfl rfl
  · replace h := (if_neg c1).symm.trans h
    refine Rt.iload_n 0 dX3_within_5 rfl ?_
    refine Rt.iload_n 2 dX3_within_6 rfl ?_
    refine Rt.icmp_gt 14 dX3_within_7 (by decide) (fun c2 => ?_) (fun c2 => ?_)
    · replace h := (if_pos c2).symm.trans h
      refine Rt.iconst 0 dX3_within_14 (by decide) ?_
      obtain rfl := Option.some.inj h
      exact Rt.ret (v := some (.int (0 : Int32))) dX3_within_15 rfl rfl rfl
    · replace h := (if_neg c2).symm.trans h
      refine Rt.iconst 1 dX3_within_10 (by decide) ?_
      refine Rt.goto 15 dX3_within_11 (by decide) ?_
      obtain rfl := Option.some.inj h
      exact Rt.ret (v := some (.int (1 : Int32))) dX3_within_15 rfl rfl rfl
def fX3_within (v0 : Int32) (v1 : Int32) (v2 : Int32) (σ : Sto) : Option (Int32 × Sto) := (fX3_within_e v0 v1 v2 σ).bind chkZ
set_option maxRecDepth 100000 in
set_option maxHeartbeats 4000000 in
theorem mfX3_within (v0 : Int32) (v1 : Int32) (v2 : Int32) (σ : Sto) (z : Int32 × Sto) (h : fX3_within v0 v1 v2 σ = some z) : AM yX3_within cX3_within 3 (some .boolean) 0 0 [.int v0, .int v1, .int v2] σ (some (.int z.1)) z.2 := by
  obtain ⟨hz, h⟩ := chkZ_ok h
  exact AM.bool hz rfl (Nat.le_of_ble_eq_true rfl) (fun X => wfX3_within_e X v0 v1 v2 σ z h)
-- fX2_tellHe
def fX2_tellHe_b32 (b0 : Nat) (v1 : Int32) (v2 : Int32) (v3 : Int32) (s0 : Int32) (σ : Sto) : Option (Int32 × Sto) := if s0 = 0 then (some (s0, σ)) else (some (s0, (upS (upS (upS σ b0 5 v1) b0 6 v2) b0 7 v3)))
set_option maxRecDepth 100000 in
set_option maxHeartbeats 4000000 in
theorem wfX2_tellHe_b32 (X : Scr) (b0 : Nat) (hb0 : bk b0) (v1 : Int32) (v2 : Int32) (v3 : Int32) (s0 : Int32) (σ : Sto) (z : Int32 × Sto) (h : fX2_tellHe_b32 b0 v1 v2 v3 s0 σ = some z) : Rt X RX2 cX2_tellHe 5 (rmA 1 22) .ireturn 32 [(0, .ref b0), (1, .int v1), (2, .int v2), (3, .int v3)] [.int s0] σ (some (.int z.1)) z.2 := by
  unfold fX2_tellHe_b32 at h
  refine Rt.istore [(4, _), (0, _), (1, _), (2, _), (3, _)] dX2_tellHe_32 (by decide) rfl ?_
  refine Rt.iload 0 dX2_tellHe_34 rfl ?_
  refine Rt.if_eq 54 dX2_tellHe_36 (by decide) (fun c2 => ?_) (fun c2 => ?_)
  · replace h := (if_pos c2).symm.trans h
    refine Rt.iload 0 dX2_tellHe_54 rfl ?_
    obtain rfl := Option.some.inj h
    exact Rt.ret (v := some (.int s0)) dX2_tellHe_56 rfl rfl rfl
  · replace h := (if_neg c2).symm.trans h
    refine Rt.aload_n 1 dX2_tellHe_39 rfl ?_
    refine Rt.iload_n 2 dX2_tellHe_40 rfl ?_
    refine pfX2_109 hb0.1 dX2_tellHe_41 ?_
    refine Rt.aload_n 1 dX2_tellHe_44 rfl ?_
    refine Rt.iload_n 3 dX2_tellHe_45 rfl ?_
    refine pfX2_112 hb0.1 dX2_tellHe_46 ?_
    refine Rt.aload_n 1 dX2_tellHe_49 rfl ?_
    refine Rt.iload_n 4 dX2_tellHe_50 rfl ?_
    refine pfX2_115 hb0.1 dX2_tellHe_51 ?_
    refine Rt.iload 0 dX2_tellHe_54 rfl ?_
    obtain rfl := Option.some.inj h
    exact Rt.ret (v := some (.int s0)) dX2_tellHe_56 rfl rfl rfl
def fX2_tellHe_b31 (b0 : Nat) (v1 : Int32) (v2 : Int32) (v3 : Int32) (σ : Sto) : Option (Int32 × Sto) := fX2_tellHe_b32 b0 v1 v2 v3 (0 : Int32) σ
set_option maxRecDepth 100000 in
set_option maxHeartbeats 4000000 in
theorem wfX2_tellHe_b31 (X : Scr) (b0 : Nat) (hb0 : bk b0) (v1 : Int32) (v2 : Int32) (v3 : Int32) (σ : Sto) (z : Int32 × Sto) (h : fX2_tellHe_b31 b0 v1 v2 v3 σ = some z) : Rt X RX2 cX2_tellHe 5 (rmA 1 22) .ireturn 31 [(0, .ref b0), (1, .int v1), (2, .int v2), (3, .int v3)] [] σ (some (.int z.1)) z.2 := by
  unfold fX2_tellHe_b31 at h
  refine Rt.iconst 0 dX2_tellHe_31 (by decide) ?_
  exact wfX2_tellHe_b32 X b0 hb0 v1 v2 v3 (0 : Int32) _ z h
def fX2_tellHe_e (b0 : Nat) (v1 : Int32) (v2 : Int32) (v3 : Int32) (σ : Sto) : Option (Int32 × Sto) := (fX3_within v1 (0 : Int32) (1 : Int32) σ).bind fun q1 => if q1.1 = 0 then (fX2_tellHe_b31 b0 v1 v2 v3 q1.2) else ((fX3_within v2 (1 : Int32) (3 : Int32) q1.2).bind fun q2 => if q2.1 = 0 then (fX2_tellHe_b31 b0 v1 v2 v3 q2.2) else ((fX3_within v3 (2 : Int32) (5 : Int32) q2.2).bind fun q3 => if q3.1 = 0 then (fX2_tellHe_b31 b0 v1 v2 v3 q3.2) else (fX2_tellHe_b32 b0 v1 v2 v3 (1 : Int32) q3.2)))
set_option maxRecDepth 100000 in
set_option maxHeartbeats 4000000 in
theorem wfX2_tellHe_e (X : Scr) (b0 : Nat) (hb0 : bk b0) (v1 : Int32) (v2 : Int32) (v3 : Int32) (σ : Sto) (z : Int32 × Sto) (h : fX2_tellHe_e b0 v1 v2 v3 σ = some z) : Rt X RX2 cX2_tellHe 5 (rmA 1 22) .ireturn 0 [(0, .ref b0), (1, .int v1), (2, .int v2), (3, .int v3)] [] σ (some (.int z.1)) z.2 := by
  unfold fX2_tellHe_e at h
  refine Rt.iload_n 1 dX2_tellHe_0 rfl ?_
  refine Rt.iconst 0 dX2_tellHe_1 (by decide) ?_
  refine Rt.iconst 1 dX2_tellHe_2 (by decide) ?_
  obtain ⟨q1, e1, h⟩ := bnd h
  refine Rt.cSN (mfX3_within v1 (0 : Int32) (1 : Int32) _ q1 e1) lkX2_105 rfl ⟨Nat.le_of_ble_eq_true rfl, Nat.le_of_ble_eq_true rfl⟩ (Nat.le_of_ble_eq_true rfl) rfl dX2_tellHe_3 ?_
  refine Rt.if_eq 31 dX2_tellHe_6 (by decide) (fun c1 => ?_) (fun c1 => ?_)
  · replace h := (if_pos c1).symm.trans h
    exact wfX2_tellHe_b31 X b0 hb0 v1 v2 v3 _ z h
  · replace h := (if_neg c1).symm.trans h
    refine Rt.iload_n 2 dX2_tellHe_9 rfl ?_
    refine Rt.iconst 1 dX2_tellHe_10 (by decide) ?_
    refine Rt.iconst 3 dX2_tellHe_11 (by decide) ?_
    obtain ⟨q2, e2, h⟩ := bnd h
    refine Rt.cSN (mfX3_within v2 (1 : Int32) (3 : Int32) _ q2 e2) lkX2_105 rfl ⟨Nat.le_of_ble_eq_true rfl, Nat.le_of_ble_eq_true rfl⟩ (Nat.le_of_ble_eq_true rfl) rfl dX2_tellHe_12 ?_
    refine Rt.if_eq 31 dX2_tellHe_15 (by decide) (fun c3 => ?_) (fun c3 => ?_)
    · replace h := (if_pos c3).symm.trans h
      exact wfX2_tellHe_b31 X b0 hb0 v1 v2 v3 _ z h
    · replace h := (if_neg c3).symm.trans h
      refine Rt.iload_n 3 dX2_tellHe_18 rfl ?_
      refine Rt.iconst 2 dX2_tellHe_19 (by decide) ?_
      refine Rt.iconst 5 dX2_tellHe_20 (by decide) ?_
      obtain ⟨q3, e3, h⟩ := bnd h
      refine Rt.cSN (mfX3_within v3 (2 : Int32) (5 : Int32) _ q3 e3) lkX2_105 rfl ⟨Nat.le_of_ble_eq_true rfl, Nat.le_of_ble_eq_true rfl⟩ (Nat.le_of_ble_eq_true rfl) rfl dX2_tellHe_21 ?_
      refine Rt.if_eq 31 dX2_tellHe_24 (by decide) (fun c4 => ?_) (fun c4 => ?_)
      · replace h := (if_pos c4).symm.trans h
        exact wfX2_tellHe_b31 X b0 hb0 v1 v2 v3 _ z h
      · replace h := (if_neg c4).symm.trans h
        refine Rt.iconst 1 dX2_tellHe_27 (by decide) ?_
        refine Rt.goto 32 dX2_tellHe_28 (by decide) ?_
        exact wfX2_tellHe_b32 X b0 hb0 v1 v2 v3 (1 : Int32) _ z h
def fX2_tellHe (b0 : Nat) (v1 : Int32) (v2 : Int32) (v3 : Int32) (σ : Sto) : Option (Int32 × Sto) := (fX2_tellHe_e b0 v1 v2 v3 σ).bind chkZ
set_option maxRecDepth 100000 in
set_option maxHeartbeats 4000000 in
theorem mfX2_tellHe (b0 : Nat) (hb0 : bk b0) (v1 : Int32) (v2 : Int32) (v3 : Int32) (σ : Sto) (z : Int32 × Sto) (h : fX2_tellHe b0 v1 v2 v3 σ = some z) : AM yX2_tellHe cX2_tellHe 5 (some .boolean) 1 22 [.ref b0, .int v1, .int v2, .int v3] σ (some (.int z.1)) z.2 := by
  obtain ⟨hz, h⟩ := chkZ_ok h
  exact AM.bool hz rfl (Nat.le_of_ble_eq_true rfl) (fun X => wfX2_tellHe_e X b0 hb0 v1 v2 v3 σ z h)
-- fX2_cellAt
def fX2_cellAt (v1 : Int32) (σ : Sto) : Option (Int32 × Sto) := (fX2_digitAt v1 σ).bind fun q1 => (fX2_digitAt (v1 + (1 : Int32)) q1.2).bind fun q2 => some ((((10 : Int32) * q1.1) + q2.1), q2.2)
set_option maxRecDepth 100000 in
set_option maxHeartbeats 4000000 in
theorem wfX2_cellAt (X : Scr) (v1 : Int32) (σ : Sto) (z : Int32 × Sto) (h : fX2_cellAt v1 σ = some z) : Rt X RX2 cX2_cellAt 2 (rmA 2 42) .ireturn 0 [(0, .ref 9), (1, .int v1)] [] σ (some (.int z.1)) z.2 := by
  unfold fX2_cellAt at h
  refine Rt.bipush 10 dX2_cellAt_0 (by decide) ?_
  refine Rt.aload_n 0 dX2_cellAt_2 rfl ?_
  refine Rt.iload_n 1 dX2_cellAt_3 rfl ?_
  obtain ⟨q1, e1, h⟩ := bnd h
  refine Rt.cV (mfX2_digitAt v1 _ q1 e1) lkX2_67 ly9 rfl rfl rfl ⟨Nat.le_of_ble_eq_true rfl, Nat.le_of_ble_eq_true rfl⟩ (Nat.le_of_ble_eq_true rfl) rfl dX2_cellAt_4 ?_
  refine Rt.imul dX2_cellAt_7 ?_
  refine Rt.aload_n 0 dX2_cellAt_8 rfl ?_
  refine Rt.iload_n 1 dX2_cellAt_9 rfl ?_
  refine Rt.iconst 1 dX2_cellAt_10 (by decide) ?_
  refine Rt.iadd dX2_cellAt_11 ?_
  obtain ⟨q2, e2, h⟩ := bnd h
  refine Rt.cV (mfX2_digitAt (v1 + (1 : Int32)) _ q2 e2) lkX2_67 ly9 rfl rfl rfl ⟨Nat.le_of_ble_eq_true rfl, Nat.le_of_ble_eq_true rfl⟩ (Nat.le_of_ble_eq_true rfl) rfl dX2_cellAt_12 ?_
  refine Rt.iadd dX2_cellAt_15 ?_
  obtain rfl := Option.some.inj h
  exact Rt.ret (v := some (.int (((10 : Int32) * q1.1) + q2.1))) dX2_cellAt_16 rfl rfl rfl
set_option maxRecDepth 100000 in
set_option maxHeartbeats 4000000 in
theorem mfX2_cellAt (v1 : Int32) (σ : Sto) (z : Int32 × Sto) (h : fX2_cellAt v1 σ = some z) : AM yX2_cellAt cX2_cellAt 2 (some .int) 2 42 [.ref 9, .int v1] σ (some (.int z.1)) z.2 := AM.int rfl (Nat.le_of_ble_eq_true rfl) (fun X => wfX2_cellAt X v1 σ z h)
-- fX3_isNot
def fX3_isNot_e (v0 : Int32) (v1 : Int32) (σ : Sto) : Option (Int32 × Sto) := if v0 < 0 then (some ((1 : Int32), σ)) else (if v0 < v1 then (some ((0 : Int32), σ)) else (some ((1 : Int32), σ)))
set_option maxRecDepth 100000 in
set_option maxHeartbeats 4000000 in
theorem wfX3_isNot_e (X : Scr) (v0 : Int32) (v1 : Int32) (σ : Sto) (z : Int32 × Sto) (h : fX3_isNot_e v0 v1 σ = some z) : Rt X RX3 cX3_isNot 2 (rmA 0 0) .ireturn 0 [(0, .int v0), (1, .int v1)] [] σ (some (.int z.1)) z.2 := by
  unfold fX3_isNot_e at h
  refine Rt.iload_n 0 dX3_isNot_0 rfl ?_
  refine Rt.if_lt 9 dX3_isNot_1 (by decide) (fun c1 => ?_) (fun c1 => ?_)
  · replace h := (if_pos c1).symm.trans h
    refine Rt.iconst 1 dX3_isNot_9 (by decide) ?_
    refine Rt.goto 14 dX3_isNot_10 (by decide) ?_
    obtain rfl := Option.some.inj h
    exact Rt.ret (v := some (.int (1 : Int32))) dX3_isNot_14 rfl rfl rfl
  · replace h := (if_neg c1).symm.trans h
    refine Rt.iload_n 0 dX3_isNot_4 rfl ?_
    refine Rt.iload_n 1 dX3_isNot_5 rfl ?_
    refine Rt.icmp_lt 13 dX3_isNot_6 (by decide) (fun c2 => ?_) (fun c2 => ?_)
    · replace h := (if_pos c2).symm.trans h
      refine Rt.iconst 0 dX3_isNot_13 (by decide) ?_
      obtain rfl := Option.some.inj h
      exact Rt.ret (v := some (.int (0 : Int32))) dX3_isNot_14 rfl rfl rfl
    · replace h := (if_neg c2).symm.trans h
      refine Rt.iconst 1 dX3_isNot_9 (by decide) ?_
      refine Rt.goto 14 dX3_isNot_10 (by decide) ?_
      obtain rfl := Option.some.inj h
      exact Rt.ret (v := some (.int (1 : Int32))) dX3_isNot_14 rfl rfl rfl
def fX3_isNot (v0 : Int32) (v1 : Int32) (σ : Sto) : Option (Int32 × Sto) := (fX3_isNot_e v0 v1 σ).bind chkZ
set_option maxRecDepth 100000 in
set_option maxHeartbeats 4000000 in
theorem mfX3_isNot (v0 : Int32) (v1 : Int32) (σ : Sto) (z : Int32 × Sto) (h : fX3_isNot v0 v1 σ = some z) : AM yX3_isNot cX3_isNot 2 (some .boolean) 0 0 [.int v0, .int v1] σ (some (.int z.1)) z.2 := by
  obtain ⟨hz, h⟩ := chkZ_ok h
  exact AM.bool hz rfl (Nat.le_of_ble_eq_true rfl) (fun X => wfX3_isNot_e X v0 v1 σ z h)
-- fX3_isNoCell
def fX3_isNoCell_e (v0 : Int32) (σ : Sto) : Option (Int32 × Sto) := if v0 < 0 then (some ((1 : Int32), σ)) else (if v0 < (24 : Int32) then (some ((0 : Int32), σ)) else (some ((1 : Int32), σ)))
set_option maxRecDepth 100000 in
set_option maxHeartbeats 4000000 in
theorem wfX3_isNoCell_e (X : Scr) (v0 : Int32) (σ : Sto) (z : Int32 × Sto) (h : fX3_isNoCell_e v0 σ = some z) : Rt X RX3 cX3_isNoCell 1 (rmA 0 0) .ireturn 0 [(0, .int v0)] [] σ (some (.int z.1)) z.2 := by
  unfold fX3_isNoCell_e at h
  refine Rt.iload_n 0 dX3_isNoCell_0 rfl ?_
  refine Rt.if_lt 10 dX3_isNoCell_1 (by decide) (fun c1 => ?_) (fun c1 => ?_)
  · replace h := (if_pos c1).symm.trans h
    refine Rt.iconst 1 dX3_isNoCell_10 (by decide) ?_
    refine Rt.goto 15 dX3_isNoCell_11 (by decide) ?_
    obtain rfl := Option.some.inj h
    exact Rt.ret (v := some (.int (1 : Int32))) dX3_isNoCell_15 rfl rfl rfl
  · replace h := (if_neg c1).symm.trans h
    refine Rt.iload_n 0 dX3_isNoCell_4 rfl ?_
    refine Rt.bipush 24 dX3_isNoCell_5 (by decide) ?_
    refine Rt.icmp_lt 14 dX3_isNoCell_7 (by decide) (fun c2 => ?_) (fun c2 => ?_)
    · replace h := (if_pos c2).symm.trans h
      refine Rt.iconst 0 dX3_isNoCell_14 (by decide) ?_
      obtain rfl := Option.some.inj h
      exact Rt.ret (v := some (.int (0 : Int32))) dX3_isNoCell_15 rfl rfl rfl
    · replace h := (if_neg c2).symm.trans h
      refine Rt.iconst 1 dX3_isNoCell_10 (by decide) ?_
      refine Rt.goto 15 dX3_isNoCell_11 (by decide) ?_
      obtain rfl := Option.some.inj h
      exact Rt.ret (v := some (.int (1 : Int32))) dX3_isNoCell_15 rfl rfl rfl
def fX3_isNoCell (v0 : Int32) (σ : Sto) : Option (Int32 × Sto) := (fX3_isNoCell_e v0 σ).bind chkZ
set_option maxRecDepth 100000 in
set_option maxHeartbeats 4000000 in
theorem mfX3_isNoCell (v0 : Int32) (σ : Sto) (z : Int32 × Sto) (h : fX3_isNoCell v0 σ = some z) : AM yX3_isNoCell cX3_isNoCell 1 (some .boolean) 0 0 [.int v0] σ (some (.int z.1)) z.2 := by
  obtain ⟨hz, h⟩ := chkZ_ok h
  exact AM.bool hz rfl (Nat.le_of_ble_eq_true rfl) (fun X => wfX3_isNoCell_e X v0 σ z h)
-- fX2_tellItch
def fX2_tellItch_e (b0 : Nat) (v1 : Int32) (v2 : Int32) (σ : Sto) : Option (Int32 × Sto) := (fX3_isNot v1 (6 : Int32) σ).bind fun q1 => if q1.1 = 0 then ((fX3_isNoCell v2 q1.2).bind fun q2 => if q2.1 = 0 then (some ((1 : Int32), (upS (upS q2.2 b0 1 v1) b0 2 v2))) else (some ((0 : Int32), q2.2))) else (some ((0 : Int32), q1.2))
set_option maxRecDepth 100000 in
set_option maxHeartbeats 4000000 in
theorem wfX2_tellItch_e (X : Scr) (b0 : Nat) (hb0 : bk b0) (v1 : Int32) (v2 : Int32) (σ : Sto) (z : Int32 × Sto) (h : fX2_tellItch_e b0 v1 v2 σ = some z) : Rt X RX2 cX2_tellItch 3 (rmA 1 21) .ireturn 0 [(0, .ref b0), (1, .int v1), (2, .int v2)] [] σ (some (.int z.1)) z.2 := by
  unfold fX2_tellItch_e at h
  refine Rt.iload_n 1 dX2_tellItch_0 rfl ?_
  refine Rt.bipush 6 dX2_tellItch_1 (by decide) ?_
  obtain ⟨q1, e1, h⟩ := bnd h
  refine Rt.cSN (mfX3_isNot v1 (6 : Int32) _ q1 e1) lkX2_90 rfl ⟨Nat.le_of_ble_eq_true rfl, Nat.le_of_ble_eq_true rfl⟩ (Nat.le_of_ble_eq_true rfl) rfl dX2_tellItch_3 ?_
  refine Rt.if_ne 16 dX2_tellItch_6 (by decide) (fun c1 => ?_) (fun c1 => ?_)
  · replace h := (if_neg c1).symm.trans h
    refine Rt.iconst 0 dX2_tellItch_16 (by decide) ?_
    obtain rfl := Option.some.inj h
    exact Rt.ret (v := some (.int (0 : Int32))) dX2_tellItch_17 rfl rfl rfl
  · replace h := (if_pos c1).symm.trans h
    refine Rt.iload_n 2 dX2_tellItch_9 rfl ?_
    obtain ⟨q2, e2, h⟩ := bnd h
    refine Rt.cSN (mfX3_isNoCell v2 _ q2 e2) lkX2_93 rfl ⟨Nat.le_of_ble_eq_true rfl, Nat.le_of_ble_eq_true rfl⟩ (Nat.le_of_ble_eq_true rfl) rfl dX2_tellItch_10 ?_
    refine Rt.if_eq 18 dX2_tellItch_13 (by decide) (fun c2 => ?_) (fun c2 => ?_)
    · replace h := (if_pos c2).symm.trans h
      refine Rt.aload_n 0 dX2_tellItch_18 rfl ?_
      refine Rt.iload_n 1 dX2_tellItch_19 rfl ?_
      refine pfX2_97 hb0.1 dX2_tellItch_20 ?_
      refine Rt.aload_n 0 dX2_tellItch_23 rfl ?_
      refine Rt.iload_n 2 dX2_tellItch_24 rfl ?_
      refine pfX2_102 hb0.1 dX2_tellItch_25 ?_
      refine Rt.iconst 1 dX2_tellItch_28 (by decide) ?_
      obtain rfl := Option.some.inj h
      exact Rt.ret (v := some (.int (1 : Int32))) dX2_tellItch_29 rfl rfl rfl
    · replace h := (if_neg c2).symm.trans h
      refine Rt.iconst 0 dX2_tellItch_16 (by decide) ?_
      obtain rfl := Option.some.inj h
      exact Rt.ret (v := some (.int (0 : Int32))) dX2_tellItch_17 rfl rfl rfl
def fX2_tellItch (b0 : Nat) (v1 : Int32) (v2 : Int32) (σ : Sto) : Option (Int32 × Sto) := (fX2_tellItch_e b0 v1 v2 σ).bind chkZ
set_option maxRecDepth 100000 in
set_option maxHeartbeats 4000000 in
theorem mfX2_tellItch (b0 : Nat) (hb0 : bk b0) (v1 : Int32) (v2 : Int32) (σ : Sto) (z : Int32 × Sto) (h : fX2_tellItch b0 v1 v2 σ = some z) : AM yX2_tellItch cX2_tellItch 3 (some .boolean) 1 21 [.ref b0, .int v1, .int v2] σ (some (.int z.1)) z.2 := by
  obtain ⟨hz, h⟩ := chkZ_ok h
  exact AM.bool hz rfl (Nat.le_of_ble_eq_true rfl) (fun X => wfX2_tellItch_e X b0 hb0 v1 v2 σ z h)
-- fX2_tellSeam
def fX2_tellSeam_e (b0 : Nat) (v1 : Int32) (σ : Sto) : Option (Int32 × Sto) := (fX3_within v1 (0 : Int32) (5 : Int32) σ).bind fun q1 => if q1.1 = 0 then (some (q1.1, q1.2)) else (some (q1.1, (upS q1.2 b0 8 v1)))
set_option maxRecDepth 100000 in
set_option maxHeartbeats 4000000 in
theorem wfX2_tellSeam_e (X : Scr) (b0 : Nat) (hb0 : bk b0) (v1 : Int32) (σ : Sto) (z : Int32 × Sto) (h : fX2_tellSeam_e b0 v1 σ = some z) : Rt X RX2 cX2_tellSeam 3 (rmA 1 22) .ireturn 0 [(0, .ref b0), (1, .int v1)] [] σ (some (.int z.1)) z.2 := by
  unfold fX2_tellSeam_e at h
  refine Rt.iload_n 1 dX2_tellSeam_0 rfl ?_
  refine Rt.iconst 0 dX2_tellSeam_1 (by decide) ?_
  refine Rt.iconst 5 dX2_tellSeam_2 (by decide) ?_
  obtain ⟨q1, e1, h⟩ := bnd h
  refine Rt.cSN (mfX3_within v1 (0 : Int32) (5 : Int32) _ q1 e1) lkX2_105 rfl ⟨Nat.le_of_ble_eq_true rfl, Nat.le_of_ble_eq_true rfl⟩ (Nat.le_of_ble_eq_true rfl) rfl dX2_tellSeam_3 ?_
  refine Rt.istore_n [(2, _), (0, _), (1, _)] dX2_tellSeam_6 (by decide) rfl ?_
  refine Rt.iload_n 0 dX2_tellSeam_7 rfl ?_
  refine Rt.if_eq 16 dX2_tellSeam_8 (by decide) (fun c1 => ?_) (fun c1 => ?_)
  · replace h := (if_pos c1).symm.trans h
    refine Rt.iload_n 0 dX2_tellSeam_16 rfl ?_
    obtain rfl := Option.some.inj h
    exact Rt.ret (v := some (.int q1.1)) dX2_tellSeam_17 rfl rfl rfl
  · replace h := (if_neg c1).symm.trans h
    refine Rt.aload_n 1 dX2_tellSeam_11 rfl ?_
    refine Rt.iload_n 2 dX2_tellSeam_12 rfl ?_
    refine pfX2_118 hb0.1 dX2_tellSeam_13 ?_
    refine Rt.iload_n 0 dX2_tellSeam_16 rfl ?_
    obtain rfl := Option.some.inj h
    exact Rt.ret (v := some (.int q1.1)) dX2_tellSeam_17 rfl rfl rfl
def fX2_tellSeam (b0 : Nat) (v1 : Int32) (σ : Sto) : Option (Int32 × Sto) := (fX2_tellSeam_e b0 v1 σ).bind chkZ
set_option maxRecDepth 100000 in
set_option maxHeartbeats 4000000 in
theorem mfX2_tellSeam (b0 : Nat) (hb0 : bk b0) (v1 : Int32) (σ : Sto) (z : Int32 × Sto) (h : fX2_tellSeam b0 v1 σ = some z) : AM yX2_tellSeam cX2_tellSeam 3 (some .boolean) 1 22 [.ref b0, .int v1] σ (some (.int z.1)) z.2 := by
  obtain ⟨hz, h⟩ := chkZ_ok h
  exact AM.bool hz rfl (Nat.le_of_ble_eq_true rfl) (fun X => wfX2_tellSeam_e X b0 hb0 v1 σ z h)
-- fX0_awayFromHand
def fX0_awayFromHand_b81 (k : Nat) (σ : Sto) : Option (Int32 × Sto) := some ((σ k 2), σ)
set_option maxRecDepth 100000 in
set_option maxHeartbeats 4000000 in
theorem wfX0_awayFromHand_b81 (X : Scr) (k : Nat) (hk : bk k) (σ : Sto) (z : Int32 × Sto) (h : fX0_awayFromHand_b81 k σ = some z) : Rt X RX0 cX0_awayFromHand 2 (rmA 0 0) .ireturn 81 [(0, .ref k)] [] σ (some (.int z.1)) z.2 := by
  unfold fX0_awayFromHand_b81 at h
  refine Rt.aload_n 0 dX0_awayFromHand_81 rfl ?_
  refine gfX0_19 hk.1 dX0_awayFromHand_82 ?_
  obtain rfl := Option.some.inj h
  exact Rt.ret (v := some (.int (σ k 2))) dX0_awayFromHand_85 rfl rfl rfl
def fX0_awayFromHand_b55 (k : Nat) (v1 : Int32) (σ : Sto) : Option (Int32 × Sto) := if (σ k 2) = ((σ k 3) - (1 : Int32)) then (if v1 ≤ 0 then (fX0_awayFromHand_b81 k σ) else (some (((σ k 2) - (1 : Int32)), σ))) else (fX0_awayFromHand_b81 k σ)
set_option maxRecDepth 100000 in
set_option maxHeartbeats 4000000 in
theorem wfX0_awayFromHand_b55 (X : Scr) (k : Nat) (hk : bk k) (v1 : Int32) (σ : Sto) (z : Int32 × Sto) (h : fX0_awayFromHand_b55 k v1 σ = some z) : Rt X RX0 cX0_awayFromHand 2 (rmA 0 0) .ireturn 55 [(0, .ref k), (1, .int v1)] [] σ (some (.int z.1)) z.2 := by
  unfold fX0_awayFromHand_b55 at h
  refine Rt.aload_n 0 dX0_awayFromHand_55 rfl ?_
  refine gfX0_19 hk.1 dX0_awayFromHand_56 ?_
  refine Rt.aload_n 0 dX0_awayFromHand_59 rfl ?_
  refine gfX0_22 hk.1 dX0_awayFromHand_60 ?_
  refine Rt.iconst 1 dX0_awayFromHand_63 (by decide) ?_
  refine Rt.isub dX0_awayFromHand_64 ?_
  refine Rt.icmp_ne 81 dX0_awayFromHand_65 (by decide) (fun c3 => ?_) (fun c3 => ?_)
  · replace h := (if_neg c3).symm.trans h
    refine Rt.pick [0] rfl ?_
    exact wfX0_awayFromHand_b81 X k hk _ z h
  · replace h := (if_pos c3).symm.trans h
    refine Rt.iload_n 1 dX0_awayFromHand_68 rfl ?_
    refine Rt.if_le 81 dX0_awayFromHand_69 (by decide) (fun c4 => ?_) (fun c4 => ?_)
    · replace h := (if_pos c4).symm.trans h
      refine Rt.pick [0] rfl ?_
      exact wfX0_awayFromHand_b81 X k hk _ z h
    · replace h := (if_neg c4).symm.trans h
      refine Rt.aload_n 0 dX0_awayFromHand_72 rfl ?_
      refine gfX0_19 hk.1 dX0_awayFromHand_73 ?_
      refine Rt.iconst 1 dX0_awayFromHand_76 (by decide) ?_
      refine Rt.isub dX0_awayFromHand_77 ?_
      refine Rt.goto 85 dX0_awayFromHand_78 (by decide) ?_
      obtain rfl := Option.some.inj h
      exact Rt.ret (v := some (.int ((σ k 2) - (1 : Int32)))) dX0_awayFromHand_85 rfl rfl rfl
def fX0_awayFromHand (k : Nat) (σ : Sto) : Option (Int32 × Sto) := if ((σ k 2) / (6 : Int32)) = ((σ k 3) / (6 : Int32)) then (if (σ k 2) = ((σ k 3) + (1 : Int32)) then (if (5 : Int32) ≤ (irm (σ k 2) (6 : Int32)) then (fX0_awayFromHand_b55 k (irm (σ k 2) (6 : Int32)) σ) else (some (((σ k 2) + (1 : Int32)), σ))) else (fX0_awayFromHand_b55 k (irm (σ k 2) (6 : Int32)) σ)) else (some ((σ k 2), σ))
set_option maxRecDepth 100000 in
set_option maxHeartbeats 4000000 in
theorem wfX0_awayFromHand (X : Scr) (k : Nat) (hk : bk k) (σ : Sto) (z : Int32 × Sto) (h : fX0_awayFromHand k σ = some z) : Rt X RX0 cX0_awayFromHand 2 (rmA 0 0) .ireturn 0 [(0, .ref k)] [] σ (some (.int z.1)) z.2 := by
  unfold fX0_awayFromHand at h
  refine Rt.aload_n 0 dX0_awayFromHand_0 rfl ?_
  refine gfX0_19 hk.1 dX0_awayFromHand_1 ?_
  refine Rt.bipush 6 dX0_awayFromHand_4 (by decide) ?_
  refine Rt.idiv dX0_awayFromHand_6 (by decide) ?_
  refine Rt.aload_n 0 dX0_awayFromHand_7 rfl ?_
  refine gfX0_22 hk.1 dX0_awayFromHand_8 ?_
  refine Rt.bipush 6 dX0_awayFromHand_11 (by decide) ?_
  refine Rt.idiv dX0_awayFromHand_13 (by decide) ?_
  refine Rt.icmp_eq 22 dX0_awayFromHand_14 (by decide) (fun c1 => ?_) (fun c1 => ?_)
  · replace h := (if_pos c1).symm.trans h
    refine Rt.aload_n 0 dX0_awayFromHand_22 rfl ?_
    refine gfX0_19 hk.1 dX0_awayFromHand_23 ?_
    refine Rt.bipush 6 dX0_awayFromHand_26 (by decide) ?_
    refine Rt.rem dX0_awayFromHand_28 (by decide) ?_
    refine Rt.istore_n [(1, _), (0, _)] dX0_awayFromHand_29 (by decide) rfl ?_
    refine Rt.aload_n 1 dX0_awayFromHand_30 rfl ?_
    refine gfX0_19 hk.1 dX0_awayFromHand_31 ?_
    refine Rt.aload_n 1 dX0_awayFromHand_34 rfl ?_
    refine gfX0_22 hk.1 dX0_awayFromHand_35 ?_
    refine Rt.iconst 1 dX0_awayFromHand_38 (by decide) ?_
    refine Rt.iadd dX0_awayFromHand_39 ?_
    refine Rt.icmp_ne 55 dX0_awayFromHand_40 (by decide) (fun c2 => ?_) (fun c2 => ?_)
    · replace h := (if_neg c2).symm.trans h
      refine Rt.pick [1, 0] rfl ?_
      exact wfX0_awayFromHand_b55 X k hk (irm (σ k 2) (6 : Int32)) _ z h
    · replace h := (if_pos c2).symm.trans h
      refine Rt.iload_n 0 dX0_awayFromHand_43 rfl ?_
      refine Rt.iconst 5 dX0_awayFromHand_44 (by decide) ?_
      refine Rt.icmp_ge 55 dX0_awayFromHand_45 (by decide) (fun c5 => ?_) (fun c5 => ?_)
      · replace h := (if_pos c5).symm.trans h
        refine Rt.pick [1, 0] rfl ?_
        exact wfX0_awayFromHand_b55 X k hk (irm (σ k 2) (6 : Int32)) _ z h
      · replace h := (if_neg c5).symm.trans h
        refine Rt.aload_n 1 dX0_awayFromHand_48 rfl ?_
        refine gfX0_19 hk.1 dX0_awayFromHand_49 ?_
        refine Rt.iconst 1 dX0_awayFromHand_52 (by decide) ?_
        refine Rt.iadd dX0_awayFromHand_53 ?_
        obtain rfl := Option.some.inj h
        exact Rt.ret (v := some (.int ((σ k 2) + (1 : Int32)))) dX0_awayFromHand_54 rfl rfl rfl
  · replace h := (if_neg c1).symm.trans h
    refine Rt.aload_n 0 dX0_awayFromHand_17 rfl ?_
    refine gfX0_19 hk.1 dX0_awayFromHand_18 ?_
    obtain rfl := Option.some.inj h
    exact Rt.ret (v := some (.int (σ k 2))) dX0_awayFromHand_21 rfl rfl rfl
set_option maxRecDepth 100000 in
set_option maxHeartbeats 4000000 in
theorem mfX0_awayFromHand (k : Nat) (hk : bk k) (σ : Sto) (z : Int32 × Sto) (h : fX0_awayFromHand k σ = some z) : AM yX0_awayFromHand cX0_awayFromHand 2 (some .int) 0 0 [.ref k] σ (some (.int z.1)) z.2 := AM.int rfl (Nat.le_of_ble_eq_true rfl) (fun X => wfX0_awayFromHand X k hk σ z h)
-- fX0_soreAt
def fX0_soreAt (k : Nat) (v1 : Int32) (σ : Sto) : Option (Int32 × Sto) := if v1 < 0 then (some ((0 : Int32), σ)) else (if v1 < (24 : Int32) then (if inb v1 24 = true then (some ((σ (k + 1) (v1).toNatClampNeg), σ)) else none) else (some ((0 : Int32), σ)))
set_option maxRecDepth 100000 in
set_option maxHeartbeats 4000000 in
theorem wfX0_soreAt (X : Scr) (k : Nat) (hk : bk k) (v1 : Int32) (σ : Sto) (z : Int32 × Sto) (h : fX0_soreAt k v1 σ = some z) : Rt X RX0 cX0_soreAt 2 (rmA 0 0) .ireturn 0 [(0, .ref k), (1, .int v1)] [] σ (some (.int z.1)) z.2 := by
  unfold fX0_soreAt at h
  refine Rt.iload_n 1 dX0_soreAt_0 rfl ?_
  refine Rt.if_lt 10 dX0_soreAt_1 (by decide) (fun c1 => ?_) (fun c1 => ?_)
  · replace h := (if_pos c1).symm.trans h
    refine Rt.iconst 0 dX0_soreAt_10 (by decide) ?_
    refine Rt.goto 20 dX0_soreAt_11 (by decide) ?_
    obtain rfl := Option.some.inj h
    exact Rt.ret (v := some (.int (0 : Int32))) dX0_soreAt_20 rfl rfl rfl
  · replace h := (if_neg c1).symm.trans h
    refine Rt.iload_n 1 dX0_soreAt_4 rfl ?_
    refine Rt.bipush 24 dX0_soreAt_5 (by decide) ?_
    refine Rt.icmp_lt 14 dX0_soreAt_7 (by decide) (fun c2 => ?_) (fun c2 => ?_)
    · replace h := (if_pos c2).symm.trans h
      refine Rt.aload_n 0 dX0_soreAt_14 rfl ?_
      refine gfX0_9 hk.1 dX0_soreAt_15 ?_
      refine Rt.iload_n 1 dX0_soreAt_18 rfl ?_
      obtain ⟨g3, h⟩ := gd h
      refine Rt.iald hk.2 g3 dX0_soreAt_19 ?_
      obtain rfl := Option.some.inj h
      exact Rt.ret (v := some (.int (σ (k + 1) (v1).toNatClampNeg))) dX0_soreAt_20 rfl rfl rfl
    · replace h := (if_neg c2).symm.trans h
      refine Rt.iconst 0 dX0_soreAt_10 (by decide) ?_
      refine Rt.goto 20 dX0_soreAt_11 (by decide) ?_
      obtain rfl := Option.some.inj h
      exact Rt.ret (v := some (.int (0 : Int32))) dX0_soreAt_20 rfl rfl rfl
set_option maxRecDepth 100000 in
set_option maxHeartbeats 4000000 in
theorem mfX0_soreAt (k : Nat) (hk : bk k) (v1 : Int32) (σ : Sto) (z : Int32 × Sto) (h : fX0_soreAt k v1 σ = some z) : AM yX0_soreAt cX0_soreAt 2 (some .int) 0 0 [.ref k, .int v1] σ (some (.int z.1)) z.2 := AM.int rfl (Nat.le_of_ble_eq_true rfl) (fun X => wfX0_soreAt X k hk v1 σ z h)
-- fJ6_compare_7cf53
def fJ6_compare_7cf53 (v0 : Int32) (v1 : Int32) (σ : Sto) : Option (Int32 × Sto) := if v1 ≤ v0 then (if v0 = v1 then (some ((0 : Int32), σ)) else (some ((1 : Int32), σ))) else (some ((-1 : Int32), σ))
set_option maxRecDepth 100000 in
set_option maxHeartbeats 4000000 in
theorem wfJ6_compare_7cf53 (X : Scr) (v0 : Int32) (v1 : Int32) (σ : Sto) (z : Int32 × Sto) (h : fJ6_compare_7cf53 v0 v1 σ = some z) : Rt X RJ6 cJ6_compare_7cf53 2 (rmA 0 0) .ireturn 0 [(0, .int v0), (1, .int v1)] [] σ (some (.int z.1)) z.2 := by
  unfold fJ6_compare_7cf53 at h
  refine Rt.iload_n 0 dJ6_compare_7cf53_0 rfl ?_
  refine Rt.iload_n 1 dJ6_compare_7cf53_1 rfl ?_
  refine Rt.icmp_ge 9 dJ6_compare_7cf53_2 (by decide) (fun c1 => ?_) (fun c1 => ?_)
  · replace h := (if_pos c1).symm.trans h
    refine Rt.iload_n 0 dJ6_compare_7cf53_9 rfl ?_
    refine Rt.iload_n 1 dJ6_compare_7cf53_10 rfl ?_
    refine Rt.icmp_ne 18 dJ6_compare_7cf53_11 (by decide) (fun c2 => ?_) (fun c2 => ?_)
    · replace h := (if_neg c2).symm.trans h
      refine Rt.iconst 1 dJ6_compare_7cf53_18 (by decide) ?_
      obtain rfl := Option.some.inj h
      exact Rt.ret (v := some (.int (1 : Int32))) dJ6_compare_7cf53_19 rfl rfl rfl
    · replace h := (if_pos c2).symm.trans h
      refine Rt.iconst 0 dJ6_compare_7cf53_14 (by decide) ?_
      refine Rt.goto 19 dJ6_compare_7cf53_15 (by decide) ?_
      obtain rfl := Option.some.inj h
      exact Rt.ret (v := some (.int (0 : Int32))) dJ6_compare_7cf53_19 rfl rfl rfl
  · replace h := (if_neg c1).symm.trans h
    refine Rt.iconst (-1) dJ6_compare_7cf53_5 (by decide) ?_
    refine Rt.goto 19 dJ6_compare_7cf53_6 (by decide) ?_
    obtain rfl := Option.some.inj h
    exact Rt.ret (v := some (.int (-1 : Int32))) dJ6_compare_7cf53_19 rfl rfl rfl
set_option maxRecDepth 100000 in
set_option maxHeartbeats 4000000 in
theorem mfJ6_compare_7cf53 (v0 : Int32) (v1 : Int32) (σ : Sto) (z : Int32 × Sto) (h : fJ6_compare_7cf53 v0 v1 σ = some z) : AM yJ6_compare_7cf53 cJ6_compare_7cf53 2 (some .int) 0 0 [.int v0, .int v1] σ (some (.int z.1)) z.2 := AM.int rfl (Nat.le_of_ble_eq_true rfl) (fun X => wfJ6_compare_7cf53 X v0 v1 σ z h)
-- fX0_whenBeside
def fX0_whenBeside_b103 (k : Nat) (s0 : Int32) (σ : Sto) : Option (Int32 × Sto) := if (σ k 1) = (3 : Int32) then (if s0 = (σ k 2) then ((fX0_soreAt k ((((((σ k 2) / (6 : Int32)) * (6 : Int32)) + (6 : Int32)) - (1 : Int32)) - (irm (σ k 2) (6 : Int32))) σ).bind fun q2 => if q2.1 = 0 then (some (((((((σ k 2) / (6 : Int32)) * (6 : Int32)) + (6 : Int32)) - (1 : Int32)) - (irm (σ k 2) (6 : Int32))), q2.2)) else (some ((q2.2 k 2), q2.2))) else (some (s0, σ))) else (some (s0, σ))
set_option maxRecDepth 100000 in
set_option maxHeartbeats 4000000 in
theorem wfX0_whenBeside_b103 (X : Scr) (k : Nat) (hk : bk k) (s0 : Int32) (σ : Sto) (z : Int32 × Sto) (h : fX0_whenBeside_b103 k s0 σ = some z) : Rt X RX0 cX0_whenBeside 4 (rmA 1 21) .ireturn 103 [(0, .ref k)] [.int s0] σ (some (.int z.1)) z.2 := by
  unfold fX0_whenBeside_b103 at h
  refine Rt.istore_n [(2, _), (0, _)] dX0_whenBeside_103 (by decide) rfl ?_
  refine Rt.aload_n 1 dX0_whenBeside_104 rfl ?_
  refine gfX0_15 hk.1 dX0_whenBeside_105 ?_
  refine Rt.iconst 3 dX0_whenBeside_108 (by decide) ?_
  refine Rt.icmp_ne 120 dX0_whenBeside_109 (by decide) (fun c6 => ?_) (fun c6 => ?_)
  · replace h := (if_neg c6).symm.trans h
    refine Rt.iload_n 0 dX0_whenBeside_120 rfl ?_
    obtain rfl := Option.some.inj h
    exact Rt.ret (v := some (.int s0)) dX0_whenBeside_121 rfl rfl rfl
  · replace h := (if_pos c6).symm.trans h
    refine Rt.iload_n 0 dX0_whenBeside_112 rfl ?_
    refine Rt.aload_n 1 dX0_whenBeside_113 rfl ?_
    refine gfX0_19 hk.1 dX0_whenBeside_114 ?_
    refine Rt.icmp_eq 122 dX0_whenBeside_117 (by decide) (fun c7 => ?_) (fun c7 => ?_)
    · replace h := (if_pos c7).symm.trans h
      refine Rt.aload_n 1 dX0_whenBeside_122 rfl ?_
      refine gfX0_19 hk.1 dX0_whenBeside_123 ?_
      refine Rt.bipush 6 dX0_whenBeside_126 (by decide) ?_
      refine Rt.idiv dX0_whenBeside_128 (by decide) ?_
      refine Rt.bipush 6 dX0_whenBeside_129 (by decide) ?_
      refine Rt.imul dX0_whenBeside_131 ?_
      refine Rt.bipush 6 dX0_whenBeside_132 (by decide) ?_
      refine Rt.iadd dX0_whenBeside_134 ?_
      refine Rt.iconst 1 dX0_whenBeside_135 (by decide) ?_
      refine Rt.isub dX0_whenBeside_136 ?_
      refine Rt.aload_n 1 dX0_whenBeside_137 rfl ?_
      refine gfX0_19 hk.1 dX0_whenBeside_138 ?_
      refine Rt.bipush 6 dX0_whenBeside_141 (by decide) ?_
      refine Rt.rem dX0_whenBeside_143 (by decide) ?_
      refine Rt.isub dX0_whenBeside_144 ?_
      refine Rt.istore_n [(3, _), (2, _), (0, _)] dX0_whenBeside_145 (by decide) rfl ?_
      refine Rt.aload_n 2 dX0_whenBeside_146 rfl ?_
      refine Rt.iload_n 0 dX0_whenBeside_147 rfl ?_
      obtain ⟨q2, e2, h⟩ := bnd h
      refine Rt.cV (mfX0_soreAt k hk ((((((σ k 2) / (6 : Int32)) * (6 : Int32)) + (6 : Int32)) - (1 : Int32)) - (irm (σ k 2) (6 : Int32))) _ q2 e2) lkX0_66 hk.1 rfl rfl rfl ⟨Nat.le_of_ble_eq_true rfl, Nat.le_of_ble_eq_true rfl⟩ (Nat.le_of_ble_eq_true rfl) rfl dX0_whenBeside_148 ?_
      refine Rt.if_ne 158 dX0_whenBeside_151 (by decide) (fun c8 => ?_) (fun c8 => ?_)
      · replace h := (if_neg c8).symm.trans h
        refine Rt.aload_n 2 dX0_whenBeside_158 rfl ?_
        refine gfX0_19 hk.1 dX0_whenBeside_159 ?_
        obtain rfl := Option.some.inj h
        exact Rt.ret (v := some (.int (q2.2 k 2))) dX0_whenBeside_162 rfl rfl rfl
      · replace h := (if_pos c8).symm.trans h
        refine Rt.iload_n 0 dX0_whenBeside_154 rfl ?_
        refine Rt.goto 162 dX0_whenBeside_155 (by decide) ?_
        obtain rfl := Option.some.inj h
        exact Rt.ret (v := some (.int ((((((σ k 2) / (6 : Int32)) * (6 : Int32)) + (6 : Int32)) - (1 : Int32)) - (irm (σ k 2) (6 : Int32))))) dX0_whenBeside_162 rfl rfl rfl
    · replace h := (if_neg c7).symm.trans h
      refine Rt.iload_n 0 dX0_whenBeside_120 rfl ?_
      obtain rfl := Option.some.inj h
      exact Rt.ret (v := some (.int s0)) dX0_whenBeside_121 rfl rfl rfl
def fX0_whenBeside_b84 (k : Nat) (s0 : Int32) (σ : Sto) : Option (Int32 × Sto) := if s0 = 0 then ((fX0_awayFromHand k σ).bind fun q1 => fX0_whenBeside_b103 k q1.1 q1.2) else (fX0_whenBeside_b103 k ((σ k 2) + (6 : Int32)) σ)
set_option maxRecDepth 100000 in
set_option maxHeartbeats 4000000 in
theorem wfX0_whenBeside_b84 (X : Scr) (k : Nat) (hk : bk k) (s0 : Int32) (σ : Sto) (z : Int32 × Sto) (h : fX0_whenBeside_b84 k s0 σ = some z) : Rt X RX0 cX0_whenBeside 4 (rmA 1 21) .ireturn 84 [(0, .ref k)] [.int s0] σ (some (.int z.1)) z.2 := by
  unfold fX0_whenBeside_b84 at h
  refine Rt.istore_n [(1, _), (0, _)] dX0_whenBeside_84 (by decide) rfl ?_
  refine Rt.iload_n 0 dX0_whenBeside_85 rfl ?_
  refine Rt.if_eq 99 dX0_whenBeside_86 (by decide) (fun c5 => ?_) (fun c5 => ?_)
  · replace h := (if_pos c5).symm.trans h
    refine Rt.aload_n 1 dX0_whenBeside_99 rfl ?_
    obtain ⟨q1, e1, h⟩ := bnd h
    refine Rt.cV (mfX0_awayFromHand k hk _ q1 e1) lkX0_75 hk.1 rfl rfl rfl ⟨Nat.le_of_ble_eq_true rfl, Nat.le_of_ble_eq_true rfl⟩ (Nat.le_of_ble_eq_true rfl) rfl dX0_whenBeside_100 ?_
    refine Rt.pick [1] rfl ?_
    exact wfX0_whenBeside_b103 X k hk q1.1 _ z h
  · replace h := (if_neg c5).symm.trans h
    refine Rt.aload_n 1 dX0_whenBeside_89 rfl ?_
    refine gfX0_19 hk.1 dX0_whenBeside_90 ?_
    refine Rt.bipush 6 dX0_whenBeside_93 (by decide) ?_
    refine Rt.iadd dX0_whenBeside_95 ?_
    refine Rt.goto 103 dX0_whenBeside_96 (by decide) ?_
    refine Rt.pick [1] rfl ?_
    exact wfX0_whenBeside_b103 X k hk ((σ k 2) + (6 : Int32)) _ z h
def fX0_whenBeside_b83 (k : Nat) (σ : Sto) : Option (Int32 × Sto) := fX0_whenBeside_b84 k (0 : Int32) σ
set_option maxRecDepth 100000 in
set_option maxHeartbeats 4000000 in
theorem wfX0_whenBeside_b83 (X : Scr) (k : Nat) (hk : bk k) (σ : Sto) (z : Int32 × Sto) (h : fX0_whenBeside_b83 k σ = some z) : Rt X RX0 cX0_whenBeside 4 (rmA 1 21) .ireturn 83 [(0, .ref k)] [] σ (some (.int z.1)) z.2 := by
  unfold fX0_whenBeside_b83 at h
  refine Rt.iconst 0 dX0_whenBeside_83 (by decide) ?_
  exact wfX0_whenBeside_b84 X k hk (0 : Int32) _ z h
def fX0_whenBeside (k : Nat) (σ : Sto) : Option (Int32 × Sto) := if (σ k 1) = (5 : Int32) then (some ((24 : Int32), σ)) else (if (σ k 1) = (2 : Int32) then (some ((σ k 2), σ)) else (if (σ k 1) = (4 : Int32) then ((fJ6_compare_7cf53 (σ k 8) (irm (σ k 2) (6 : Int32)) σ).bind fun q3 => some (((σ k 2) + q3.1), q3.2)) else (if (σ k 1) = 0 then (fX0_whenBeside_b83 k σ) else (if (irm (σ k 4) (3 : Int32)) = 0 then (if (3 : Int32) ≤ ((σ k 2) / (6 : Int32)) then (fX0_whenBeside_b83 k σ) else (fX0_whenBeside_b84 k (1 : Int32) σ)) else (fX0_whenBeside_b83 k σ)))))
set_option maxRecDepth 100000 in
set_option maxHeartbeats 4000000 in
theorem wfX0_whenBeside (X : Scr) (k : Nat) (hk : bk k) (σ : Sto) (z : Int32 × Sto) (h : fX0_whenBeside k σ = some z) : Rt X RX0 cX0_whenBeside 4 (rmA 1 21) .ireturn 0 [(0, .ref k)] [] σ (some (.int z.1)) z.2 := by
  unfold fX0_whenBeside at h
  refine Rt.aload_n 0 dX0_whenBeside_0 rfl ?_
  refine gfX0_15 hk.1 dX0_whenBeside_1 ?_
  refine Rt.iconst 5 dX0_whenBeside_4 (by decide) ?_
  refine Rt.icmp_ne 11 dX0_whenBeside_5 (by decide) (fun c1 => ?_) (fun c1 => ?_)
  · replace h := (if_neg c1).symm.trans h
    refine Rt.aload_n 0 dX0_whenBeside_11 rfl ?_
    refine gfX0_15 hk.1 dX0_whenBeside_12 ?_
    refine Rt.iconst 2 dX0_whenBeside_15 (by decide) ?_
    refine Rt.icmp_ne 24 dX0_whenBeside_16 (by decide) (fun c2 => ?_) (fun c2 => ?_)
    · replace h := (if_neg c2).symm.trans h
      refine Rt.aload_n 0 dX0_whenBeside_24 rfl ?_
      refine gfX0_15 hk.1 dX0_whenBeside_25 ?_
      refine Rt.iconst 4 dX0_whenBeside_28 (by decide) ?_
      refine Rt.icmp_ne 52 dX0_whenBeside_29 (by decide) (fun c3 => ?_) (fun c3 => ?_)
      · replace h := (if_neg c3).symm.trans h
        refine Rt.aload_n 0 dX0_whenBeside_52 rfl ?_
        refine gfX0_15 hk.1 dX0_whenBeside_53 ?_
        refine Rt.if_eq 83 dX0_whenBeside_56 (by decide) (fun c4 => ?_) (fun c4 => ?_)
        · replace h := (if_pos c4).symm.trans h
          exact wfX0_whenBeside_b83 X k hk _ z h
        · replace h := (if_neg c4).symm.trans h
          refine Rt.aload_n 0 dX0_whenBeside_59 rfl ?_
          refine gfX0_25 hk.1 dX0_whenBeside_60 ?_
          refine Rt.iconst 3 dX0_whenBeside_63 (by decide) ?_
          refine Rt.rem dX0_whenBeside_64 (by decide) ?_
          refine Rt.if_ne 83 dX0_whenBeside_65 (by decide) (fun c9 => ?_) (fun c9 => ?_)
          · replace h := (if_neg c9).symm.trans h
            exact wfX0_whenBeside_b83 X k hk _ z h
          · replace h := (if_pos c9).symm.trans h
            refine Rt.aload_n 0 dX0_whenBeside_68 rfl ?_
            refine gfX0_19 hk.1 dX0_whenBeside_69 ?_
            refine Rt.bipush 6 dX0_whenBeside_72 (by decide) ?_
            refine Rt.idiv dX0_whenBeside_74 (by decide) ?_
            refine Rt.iconst 3 dX0_whenBeside_75 (by decide) ?_
            refine Rt.icmp_ge 83 dX0_whenBeside_76 (by decide) (fun c10 => ?_) (fun c10 => ?_)
            · replace h := (if_pos c10).symm.trans h
              exact wfX0_whenBeside_b83 X k hk _ z h
            · replace h := (if_neg c10).symm.trans h
              refine Rt.iconst 1 dX0_whenBeside_79 (by decide) ?_
              refine Rt.goto 84 dX0_whenBeside_80 (by decide) ?_
              exact wfX0_whenBeside_b84 X k hk (1 : Int32) _ z h
      · replace h := (if_pos c3).symm.trans h
        refine Rt.aload_n 0 dX0_whenBeside_32 rfl ?_
        refine gfX0_19 hk.1 dX0_whenBeside_33 ?_
        refine Rt.aload_n 0 dX0_whenBeside_36 rfl ?_
        refine gfX0_37 hk.1 dX0_whenBeside_37 ?_
        refine Rt.aload_n 0 dX0_whenBeside_40 rfl ?_
        refine gfX0_19 hk.1 dX0_whenBeside_41 ?_
        refine Rt.bipush 6 dX0_whenBeside_44 (by decide) ?_
        refine Rt.rem dX0_whenBeside_46 (by decide) ?_
        obtain ⟨q3, e3, h⟩ := bnd h
        refine Rt.cS (mfJ6_compare_7cf53 (σ k 8) (irm (σ k 2) (6 : Int32)) _ q3 e3) lkX0_70 rfl ⟨Nat.le_of_ble_eq_true rfl, Nat.le_of_ble_eq_true rfl⟩ (Nat.le_of_ble_eq_true rfl) rfl dX0_whenBeside_47 ?_
        refine Rt.iadd dX0_whenBeside_50 ?_
        obtain rfl := Option.some.inj h
        exact Rt.ret (v := some (.int ((σ k 2) + q3.1))) dX0_whenBeside_51 rfl rfl rfl
    · replace h := (if_pos c2).symm.trans h
      refine Rt.aload_n 0 dX0_whenBeside_19 rfl ?_
      refine gfX0_19 hk.1 dX0_whenBeside_20 ?_
      obtain rfl := Option.some.inj h
      exact Rt.ret (v := some (.int (σ k 2))) dX0_whenBeside_23 rfl rfl rfl
  · replace h := (if_pos c1).symm.trans h
    refine Rt.bipush 24 dX0_whenBeside_8 (by decide) ?_
    obtain rfl := Option.some.inj h
    exact Rt.ret (v := some (.int (24 : Int32))) dX0_whenBeside_10 rfl rfl rfl
set_option maxRecDepth 100000 in
set_option maxHeartbeats 4000000 in
theorem mfX0_whenBeside (k : Nat) (hk : bk k) (σ : Sto) (z : Int32 × Sto) (h : fX0_whenBeside k σ = some z) : AM yX0_whenBeside cX0_whenBeside 4 (some .int) 1 21 [.ref k] σ (some (.int z.1)) z.2 := AM.int rfl (Nat.le_of_ble_eq_true rfl) (fun X => wfX0_whenBeside X k hk σ z h)
