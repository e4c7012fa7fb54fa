-- fX0_whenStruck
def fX0_whenStruck (k : Nat) (σ : Sto) : Option (Int32 × Sto) := if (σ k 1) = 3 then (some ((irm ((σ k 2) + (7 : Int32)) (24 : Int32)), σ)) else (if (σ k 1) = 4 then ((fX0_soreAt k (σ k 2) σ).bind fun q1 => if q1.1 < (3 : Int32) then (some ((q1.2 k 2), q1.2)) else (some ((24 : Int32), q1.2))) else (some ((24 : Int32), σ)))
set_option maxRecDepth 100000 in
set_option maxHeartbeats 4000000 in
theorem wfX0_whenStruck (X : Scr) (k : Nat) (hk : bk k) (σ : Sto) (z : Int32 × Sto) (h : fX0_whenStruck k σ = some z) : Rt X RX0 cX0_whenStruck 1 (rmA 1 21) .ireturn 0 [(0, .ref k)] [] σ (some (.int z.1)) z.2 := by
  unfold fX0_whenStruck at h
  refine Rt.aload_n 0 dX0_whenStruck_0 rfl ?_
  refine gfX0_15 hk.1 dX0_whenStruck_1 ?_
  by_cases sw1_0 : (σ k 1) = 3
  · replace h := (if_pos sw1_0).symm.trans h
    refine Rt.lsw 32 dX0_whenStruck_4 (by decide) (by rw [sw1_0] <;> rfl) (by decide) ?_
    refine Rt.aload_n 0 dX0_whenStruck_32 rfl ?_
    refine gfX0_19 hk.1 dX0_whenStruck_33 ?_
    refine Rt.bipush 7 dX0_whenStruck_36 (by decide) ?_
    refine Rt.iadd dX0_whenStruck_38 ?_
    refine Rt.bipush 24 dX0_whenStruck_39 (by decide) ?_
    refine Rt.rem dX0_whenStruck_41 (by decide) ?_
    obtain rfl := Option.some.inj h
    exact Rt.ret (v := some (.int (irm ((σ k 2) + (7 : Int32)) (24 : Int32)))) dX0_whenStruck_42 rfl rfl rfl
  · replace h := (if_neg sw1_0).symm.trans h
    by_cases sw1_1 : (σ k 1) = 4
    · replace h := (if_pos sw1_1).symm.trans h
      refine Rt.lsw 43 dX0_whenStruck_4 (by decide) (by rw [sw1_1] <;> rfl) (by decide) ?_
      refine Rt.aload_n 0 dX0_whenStruck_43 rfl ?_
      refine Rt.aload_n 0 dX0_whenStruck_44 rfl ?_
      refine gfX0_19 hk.1 dX0_whenStruck_45 ?_
      obtain ⟨q1, e1, h⟩ := bnd h
      refine Rt.cV (mfX0_soreAt k hk (σ k 2) _ q1 e1) lkX0_66 hk.1 rfl rfl rfl ⟨Nat.le_of_ble_eq_true rfl, Nat.le_of_ble_eq_true rfl⟩ (Nat.le_of_ble_eq_true rfl) rfl dX0_whenStruck_48 ?_
      refine Rt.iconst 3 dX0_whenStruck_51 (by decide) ?_
      refine Rt.icmp_lt 60 dX0_whenStruck_52 (by decide) (fun c2 => ?_) (fun c2 => ?_)
      · replace h := (if_pos c2).symm.trans h
        refine Rt.aload_n 0 dX0_whenStruck_60 rfl ?_
        refine gfX0_19 hk.1 dX0_whenStruck_61 ?_
        obtain rfl := Option.some.inj h
        exact Rt.ret (v := some (.int (q1.2 k 2))) dX0_whenStruck_64 rfl rfl rfl
      · replace h := (if_neg c2).symm.trans h
        refine Rt.bipush 24 dX0_whenStruck_55 (by decide) ?_
        refine Rt.goto 64 dX0_whenStruck_57 (by decide) ?_
        obtain rfl := Option.some.inj h
        exact Rt.ret (v := some (.int (24 : Int32))) dX0_whenStruck_64 rfl rfl rfl
    · replace h := (if_neg sw1_1).symm.trans h
      have w0 := nti 3 (k := 3) rfl sw1_0
      have w1 := nti 4 (k := 4) rfl sw1_1
      refine Rt.lswOut 65 dX0_whenStruck_4 (by decide) (fun q hq => by simp at hq; rcases hq with e | e <;> subst e <;> first | exact Ne.symm w0 | exact Ne.symm w1) (by decide) ?_
      refine Rt.bipush 24 dX0_whenStruck_65 (by decide) ?_
      obtain rfl := Option.some.inj h
      exact Rt.ret (v := some (.int (24 : Int32))) dX0_whenStruck_67 rfl rfl rfl
set_option maxRecDepth 100000 in
set_option maxHeartbeats 4000000 in
theorem mfX0_whenStruck (k : Nat) (hk : bk k) (σ : Sto) (z : Int32 × Sto) (h : fX0_whenStruck k σ = some z) : AM yX0_whenStruck cX0_whenStruck 1 (some .int) 1 21 [.ref k] σ (some (.int z.1)) z.2 := AM.int rfl (Nat.le_of_ble_eq_true rfl) (fun X => wfX0_whenStruck X k hk σ z h)
-- fX0_strokeOn
def fX0_strokeOn_b64 (k : Nat) (σ : Sto) : Option (Unit × Sto) := some ((), (upS σ k 4 ((σ k 4) + (1 : Int32))))
set_option maxRecDepth 100000 in
set_option maxHeartbeats 4000000 in
theorem wfX0_strokeOn_b64 (X : Scr) (k : Nat) (hk : bk k) (σ : Sto) (z : Unit × Sto) (h : fX0_strokeOn_b64 k σ = some z) : Rt X RX0 cX0_strokeOn 2 (rmA 2 44) .return_ 64 [(0, .ref k)] [] σ none z.2 := by
  unfold fX0_strokeOn_b64 at h
  refine Rt.aload_n 0 dX0_strokeOn_64 rfl ?_
  refine Rt.dup dX0_strokeOn_65 rfl ?_
  refine gfX0_25 hk.1 dX0_strokeOn_66 ?_
  refine Rt.iconst 1 dX0_strokeOn_69 (by decide) ?_
  refine Rt.iadd dX0_strokeOn_70 ?_
  refine pfX0_25 hk.1 dX0_strokeOn_71 ?_
  obtain rfl := Option.some.inj h
  exact Rt.ret (v := none) dX0_strokeOn_74 rfl rfl rfl
def fX0_strokeOn_b61 (k : Nat) (s0 : Int32) (σ : Sto) : Option (Unit × Sto) := fX0_strokeOn_b64 k (upS σ k 2 s0)
set_option maxRecDepth 100000 in
set_option maxHeartbeats 4000000 in
theorem wfX0_strokeOn_b61 (X : Scr) (k : Nat) (hk : bk k) (s0 : Int32) (σ : Sto) (z : Unit × Sto) (h : fX0_strokeOn_b61 k s0 σ = some z) : Rt X RX0 cX0_strokeOn 2 (rmA 2 44) .return_ 61 [(0, .ref k)] [.int s0, .ref k] σ none z.2 := by
  unfold fX0_strokeOn_b61 at h
  refine pfX0_19 hk.1 dX0_strokeOn_61 ?_
  exact wfX0_strokeOn_b64 X k hk _ z h
def fX0_strokeOn_b32 (k : Nat) (v1 : Int32) (σ : Sto) : Option (Unit × Sto) := if (σ k 2) = (24 : Int32) then (fX0_strokeOn_b64 k σ) else (if (σ k 2) = v1 then ((fX0_whenStruck k σ).bind fun q3 => fX0_strokeOn_b61 k q3.1 q3.2) else ((fX0_whenBeside k σ).bind fun q2 => fX0_strokeOn_b61 k q2.1 q2.2))
set_option maxRecDepth 100000 in
set_option maxHeartbeats 4000000 in
theorem wfX0_strokeOn_b32 (X : Scr) (k : Nat) (hk : bk k) (v1 : Int32) (σ : Sto) (z : Unit × Sto) (h : fX0_strokeOn_b32 k v1 σ = some z) : Rt X RX0 cX0_strokeOn 2 (rmA 2 44) .return_ 32 [(0, .ref k), (1, .int v1)] [] σ none z.2 := by
  unfold fX0_strokeOn_b32 at h
  refine Rt.aload_n 0 dX0_strokeOn_32 rfl ?_
  refine gfX0_19 hk.1 dX0_strokeOn_33 ?_
  refine Rt.bipush 24 dX0_strokeOn_36 (by decide) ?_
  refine Rt.icmp_eq 64 dX0_strokeOn_38 (by decide) (fun c4 => ?_) (fun c4 => ?_)
  · replace h := (if_pos c4).symm.trans h
    refine Rt.pick [0] rfl ?_
    exact wfX0_strokeOn_b64 X k hk _ z h
  · replace h := (if_neg c4).symm.trans h
    refine Rt.aload_n 0 dX0_strokeOn_41 rfl ?_
    refine Rt.aload_n 0 dX0_strokeOn_42 rfl ?_
    refine gfX0_19 hk.1 dX0_strokeOn_43 ?_
    refine Rt.iload_n 1 dX0_strokeOn_46 rfl ?_
    refine Rt.icmp_ne 57 dX0_strokeOn_47 (by decide) (fun c5 => ?_) (fun c5 => ?_)
    · replace h := (if_neg c5).symm.trans h
      refine Rt.aload_n 0 dX0_strokeOn_57 rfl ?_
      obtain ⟨q2, e2, h⟩ := bnd h
      refine Rt.cV (mfX0_whenBeside k hk _ q2 e2) lkX0_63 hk.1 rfl rfl rfl ⟨Nat.le_of_ble_eq_true rfl, Nat.le_of_ble_eq_true rfl⟩ (Nat.le_of_ble_eq_true rfl) rfl dX0_strokeOn_58 ?_
      refine Rt.pick [0] rfl ?_
      exact wfX0_strokeOn_b61 X k hk q2.1 _ z h
    · replace h := (if_pos c5).symm.trans h
      refine Rt.aload_n 0 dX0_strokeOn_50 rfl ?_
      obtain ⟨q3, e3, h⟩ := bnd h
      refine Rt.cV (mfX0_whenStruck k hk _ q3 e3) lkX0_59 hk.1 rfl rfl rfl ⟨Nat.le_of_ble_eq_true rfl, Nat.le_of_ble_eq_true rfl⟩ (Nat.le_of_ble_eq_true rfl) rfl dX0_strokeOn_51 ?_
      refine Rt.goto 61 dX0_strokeOn_54 (by decide) ?_
      refine Rt.pick [0] rfl ?_
      exact wfX0_strokeOn_b61 X k hk q3.1 _ z h
def fX0_strokeOn (k : Nat) (v1 : Int32) (σ : Sto) : Option (Unit × Sto) := (fX3_isNoCell v1 σ).bind fun q1 => if q1.1 = 0 then (if inb v1 24 = true then (if inb v1 24 = true then (fX0_strokeOn_b32 k v1 (upS (upS q1.2 (k + 1) (v1).toNatClampNeg (mnI (9 : Int32) ((q1.2 (k + 1) (v1).toNatClampNeg) + (1 : Int32)))) k 3 v1)) else none) else none) else (some ((), q1.2))
set_option maxRecDepth 100000 in
set_option maxHeartbeats 4000000 in
theorem wfX0_strokeOn (X : Scr) (k : Nat) (hk : bk k) (v1 : Int32) (σ : Sto) (z : Unit × Sto) (h : fX0_strokeOn k v1 σ = some z) : Rt X RX0 cX0_strokeOn 2 (rmA 2 44) .return_ 0 [(0, .ref k), (1, .int v1)] [] σ none z.2 := by
  unfold fX0_strokeOn at h
  refine Rt.iload_n 1 dX0_strokeOn_0 rfl ?_
  obtain ⟨q1, e1, h⟩ := bnd h
  refine Rt.cSN (mfX3_isNoCell v1 _ q1 e1) lkX0_46 rfl ⟨Nat.le_of_ble_eq_true rfl, Nat.le_of_ble_eq_true rfl⟩ (Nat.le_of_ble_eq_true rfl) rfl dX0_strokeOn_1 ?_
  refine Rt.if_eq 8 dX0_strokeOn_4 (by decide) (fun c1 => ?_) (fun c1 => ?_)
  · replace h := (if_pos c1).symm.trans h
    refine Rt.aload_n 0 dX0_strokeOn_8 rfl ?_
    refine gfX0_9 hk.1 dX0_strokeOn_9 ?_
    refine Rt.iload_n 1 dX0_strokeOn_12 rfl ?_
    refine Rt.bipush 9 dX0_strokeOn_13 (by decide) ?_
    refine Rt.aload_n 0 dX0_strokeOn_15 rfl ?_
    refine gfX0_9 hk.1 dX0_strokeOn_16 ?_
    refine Rt.iload_n 1 dX0_strokeOn_19 rfl ?_
    obtain ⟨g2, h⟩ := gd h
    refine Rt.iald hk.2 g2 dX0_strokeOn_20 ?_
    refine Rt.iconst 1 dX0_strokeOn_21 (by decide) ?_
    refine Rt.iadd dX0_strokeOn_22 ?_
    refine Rt.mmin mlX0_54 smMmin iniMath cdMmin (Nat.le_of_ble_eq_true rfl) (Nat.le_of_ble_eq_true rfl) dX0_strokeOn_23 ?_
    obtain ⟨g3, h⟩ := gd h
    refine Rt.iast hk.2 g3 dX0_strokeOn_26 ?_
    refine Rt.aload_n 0 dX0_strokeOn_27 rfl ?_
    refine Rt.iload_n 1 dX0_strokeOn_28 rfl ?_
    refine pfX0_22 hk.1 dX0_strokeOn_29 ?_
    exact wfX0_strokeOn_b32 X k hk v1 _ z h
  · replace h := (if_neg c1).symm.trans h
    obtain rfl := Option.some.inj h
    exact Rt.ret (v := none) dX0_strokeOn_7 rfl rfl rfl
set_option maxRecDepth 100000 in
set_option maxHeartbeats 4000000 in
theorem mfX0_strokeOn (k : Nat) (hk : bk k) (v1 : Int32) (σ : Sto) (z : Unit × Sto) (h : fX0_strokeOn k v1 σ = some z) : AM yX0_strokeOn cX0_strokeOn 2 none 2 44 [.ref k, .int v1] σ none z.2 := AM.void rfl (Nat.le_of_ble_eq_true rfl) (fun X => wfX0_strokeOn X k hk v1 σ z h)
-- fX2_tellStroke
def fX2_tellStroke_e (b0 : Nat) (v1 : Int32) (σ : Sto) : Option (Int32 × Sto) := (fX3_isNoCell v1 σ).bind fun q1 => if q1.1 = 0 then (if (q1.2 b0 4) < (999 : Int32) then ((fX0_strokeOn b0 v1 q1.2).bind fun q2 => some ((1 : Int32), q2.2)) else (some ((0 : Int32), q1.2))) else (some ((0 : Int32), q1.2))
set_option maxRecDepth 100000 in
set_option maxHeartbeats 4000000 in
theorem wfX2_tellStroke_e (X : Scr) (b0 : Nat) (hb0 : bk b0) (v1 : Int32) (σ : Sto) (z : Int32 × Sto) (h : fX2_tellStroke_e b0 v1 σ = some z) : Rt X RX2 cX2_tellStroke 2 (rmA 3 65) .ireturn 0 [(0, .ref b0), (1, .int v1)] [] σ (some (.int z.1)) z.2 := by
  unfold fX2_tellStroke_e at h
  refine Rt.iload_n 1 dX2_tellStroke_0 rfl ?_
  obtain ⟨q1, e1, h⟩ := bnd h
  refine Rt.cSN (mfX3_isNoCell v1 _ q1 e1) lkX2_93 rfl ⟨Nat.le_of_ble_eq_true rfl, Nat.le_of_ble_eq_true rfl⟩ (Nat.le_of_ble_eq_true rfl) rfl dX2_tellStroke_1 ?_
  refine Rt.if_ne 17 dX2_tellStroke_4 (by decide) (fun c1 => ?_) (fun c1 => ?_)
  · replace h := (if_neg c1).symm.trans h
    refine Rt.iconst 0 dX2_tellStroke_17 (by decide) ?_
    obtain rfl := Option.some.inj h
    exact Rt.ret (v := some (.int (0 : Int32))) dX2_tellStroke_18 rfl rfl rfl
  · replace h := (if_pos c1).symm.trans h
    refine Rt.aload_n 0 dX2_tellStroke_7 rfl ?_
    refine gfX2_121 hb0.1 dX2_tellStroke_8 ?_
    refine Rt.sipush 999 dX2_tellStroke_11 (by decide) ?_
    refine Rt.icmp_lt 19 dX2_tellStroke_14 (by decide) (fun c2 => ?_) (fun c2 => ?_)
    · replace h := (if_pos c2).symm.trans h
      refine Rt.aload_n 0 dX2_tellStroke_19 rfl ?_
      refine Rt.iload_n 1 dX2_tellStroke_20 rfl ?_
      obtain ⟨q2, e2, h⟩ := bnd h
      refine Rt.cVN0 (mfX0_strokeOn b0 hb0 v1 _ q2 e2) lkX2_124 hb0.1 rfl rfl rfl ⟨Nat.le_of_ble_eq_true rfl, Nat.le_of_ble_eq_true rfl⟩ (Nat.le_of_ble_eq_true rfl) rfl dX2_tellStroke_21 ?_
      refine Rt.iconst 1 dX2_tellStroke_24 (by decide) ?_
      obtain rfl := Option.some.inj h
      exact Rt.ret (v := some (.int (1 : Int32))) dX2_tellStroke_25 rfl rfl rfl
    · replace h := (if_neg c2).symm.trans h
      refine Rt.iconst 0 dX2_tellStroke_17 (by decide) ?_
      obtain rfl := Option.some.inj h
      exact Rt.ret (v := some (.int (0 : Int32))) dX2_tellStroke_18 rfl rfl rfl
def fX2_tellStroke (b0 : Nat) (v1 : Int32) (σ : Sto) : Option (Int32 × Sto) := (fX2_tellStroke_e b0 v1 σ).bind chkZ
set_option maxRecDepth 100000 in
set_option maxHeartbeats 4000000 in
theorem mfX2_tellStroke (b0 : Nat) (hb0 : bk b0) (v1 : Int32) (σ : Sto) (z : Int32 × Sto) (h : fX2_tellStroke b0 v1 σ = some z) : AM yX2_tellStroke cX2_tellStroke 2 (some .boolean) 3 65 [.ref b0, .int v1] σ (some (.int z.1)) z.2 := by
  obtain ⟨hz, h⟩ := chkZ_ok h
  exact AM.bool hz rfl (Nat.le_of_ble_eq_true rfl) (fun X => wfX2_tellStroke_e X b0 hb0 v1 σ z h)
-- fX0_setSore
def fX0_setSore (k : Nat) (v1 : Int32) (v2 : Int32) (σ : Sto) : Option (Unit × Sto) := (fX3_isNoCell v1 σ).bind fun q1 => if q1.1 = 0 then (if inb v1 24 = true then (some ((), (upS q1.2 (k + 1) (v1).toNatClampNeg v2))) else none) else (some ((), q1.2))
set_option maxRecDepth 100000 in
set_option maxHeartbeats 4000000 in
theorem wfX0_setSore (X : Scr) (k : Nat) (hk : bk k) (v1 : Int32) (v2 : Int32) (σ : Sto) (z : Unit × Sto) (h : fX0_setSore k v1 v2 σ = some z) : Rt X RX0 cX0_setSore 3 (rmA 1 20) .return_ 0 [(0, .ref k), (1, .int v1), (2, .int v2)] [] σ none z.2 := by
  unfold fX0_setSore at h
  refine Rt.iload_n 1 dX0_setSore_0 rfl ?_
  obtain ⟨q1, e1, h⟩ := bnd h
  refine Rt.cSN (mfX3_isNoCell v1 _ q1 e1) lkX0_46 rfl ⟨Nat.le_of_ble_eq_true rfl, Nat.le_of_ble_eq_true rfl⟩ (Nat.le_of_ble_eq_true rfl) rfl dX0_setSore_1 ?_
  refine Rt.if_ne 14 dX0_setSore_4 (by decide) (fun c1 => ?_) (fun c1 => ?_)
  · replace h := (if_neg c1).symm.trans h
    obtain rfl := Option.some.inj h
    exact Rt.ret (v := none) dX0_setSore_14 rfl rfl rfl
  · replace h := (if_pos c1).symm.trans h
    refine Rt.aload_n 0 dX0_setSore_7 rfl ?_
    refine gfX0_9 hk.1 dX0_setSore_8 ?_
    refine Rt.iload_n 1 dX0_setSore_11 rfl ?_
    refine Rt.iload_n 2 dX0_setSore_12 rfl ?_
    obtain ⟨g2, h⟩ := gd h
    refine Rt.iast hk.2 g2 dX0_setSore_13 ?_
    obtain rfl := Option.some.inj h
    exact Rt.ret (v := none) dX0_setSore_14 rfl rfl rfl
set_option maxRecDepth 100000 in
set_option maxHeartbeats 4000000 in
theorem mfX0_setSore (k : Nat) (hk : bk k) (v1 : Int32) (v2 : Int32) (σ : Sto) (z : Unit × Sto) (h : fX0_setSore k v1 v2 σ = some z) : AM yX0_setSore cX0_setSore 3 none 1 20 [.ref k, .int v1, .int v2] σ none z.2 := AM.void rfl (Nat.le_of_ble_eq_true rfl) (fun X => wfX0_setSore X k hk v1 v2 σ z h)
-- fX2_tellSore
def fX2_tellSore_e (b0 : Nat) (v1 : Int32) (v2 : Int32) (σ : Sto) : Option (Int32 × Sto) := (fX3_isNoCell v1 σ).bind fun q1 => if q1.1 = 0 then ((fX3_within v2 (0 : Int32) (9 : Int32) q1.2).bind fun q2 => if q2.1 = 0 then (some ((0 : Int32), q2.2)) else ((fX0_setSore b0 v1 v2 q2.2).bind fun q3 => some ((1 : Int32), q3.2))) else (some ((0 : Int32), q1.2))
set_option maxRecDepth 100000 in
set_option maxHeartbeats 4000000 in
theorem wfX2_tellSore_e (X : Scr) (b0 : Nat) (hb0 : bk b0) (v1 : Int32) (v2 : Int32) (σ : Sto) (z : Int32 × Sto) (h : fX2_tellSore_e b0 v1 v2 σ = some z) : Rt X RX2 cX2_tellSore 3 (rmA 2 42) .ireturn 0 [(0, .ref b0), (1, .int v1), (2, .int v2)] [] σ (some (.int z.1)) z.2 := by
  unfold fX2_tellSore_e at h
  refine Rt.iload_n 1 dX2_tellSore_0 rfl ?_
  obtain ⟨q1, e1, h⟩ := bnd h
  refine Rt.cSN (mfX3_isNoCell v1 _ q1 e1) lkX2_93 rfl ⟨Nat.le_of_ble_eq_true rfl, Nat.le_of_ble_eq_true rfl⟩ (Nat.le_of_ble_eq_true rfl) rfl dX2_tellSore_1 ?_
  refine Rt.if_ne 17 dX2_tellSore_4 (by decide) (fun c1 => ?_) (fun c1 => ?_)
  · replace h := (if_neg c1).symm.trans h
    refine Rt.iconst 0 dX2_tellSore_17 (by decide) ?_
    obtain rfl := Option.some.inj h
    exact Rt.ret (v := some (.int (0 : Int32))) dX2_tellSore_18 rfl rfl rfl
  · replace h := (if_pos c1).symm.trans h
    refine Rt.iload_n 2 dX2_tellSore_7 rfl ?_
    refine Rt.iconst 0 dX2_tellSore_8 (by decide) ?_
    refine Rt.bipush 9 dX2_tellSore_9 (by decide) ?_
    obtain ⟨q2, e2, h⟩ := bnd h
    refine Rt.cSN (mfX3_within v2 (0 : Int32) (9 : Int32) _ q2 e2) lkX2_105 rfl ⟨Nat.le_of_ble_eq_true rfl, Nat.le_of_ble_eq_true rfl⟩ (Nat.le_of_ble_eq_true rfl) rfl dX2_tellSore_11 ?_
    refine Rt.if_ne 19 dX2_tellSore_14 (by decide) (fun c2 => ?_) (fun c2 => ?_)
    · replace h := (if_neg c2).symm.trans h
      refine Rt.aload_n 0 dX2_tellSore_19 rfl ?_
      refine Rt.iload_n 1 dX2_tellSore_20 rfl ?_
      refine Rt.iload_n 2 dX2_tellSore_21 rfl ?_
      obtain ⟨q3, e3, h⟩ := bnd h
      refine Rt.cVN0 (mfX0_setSore b0 hb0 v1 v2 _ q3 e3) lkX2_128 hb0.1 rfl rfl rfl ⟨Nat.le_of_ble_eq_true rfl, Nat.le_of_ble_eq_true rfl⟩ (Nat.le_of_ble_eq_true rfl) rfl dX2_tellSore_22 ?_
      refine Rt.iconst 1 dX2_tellSore_25 (by decide) ?_
      obtain rfl := Option.some.inj h
      exact Rt.ret (v := some (.int (1 : Int32))) dX2_tellSore_26 rfl rfl rfl
    · replace h := (if_pos c2).symm.trans h
      refine Rt.iconst 0 dX2_tellSore_17 (by decide) ?_
      obtain rfl := Option.some.inj h
      exact Rt.ret (v := some (.int (0 : Int32))) dX2_tellSore_18 rfl rfl rfl
def fX2_tellSore (b0 : Nat) (v1 : Int32) (v2 : Int32) (σ : Sto) : Option (Int32 × Sto) := (fX2_tellSore_e b0 v1 v2 σ).bind chkZ
set_option maxRecDepth 100000 in
set_option maxHeartbeats 4000000 in
theorem mfX2_tellSore (b0 : Nat) (hb0 : bk b0) (v1 : Int32) (v2 : Int32) (σ : Sto) (z : Int32 × Sto) (h : fX2_tellSore b0 v1 v2 σ = some z) : AM yX2_tellSore cX2_tellSore 3 (some .boolean) 2 42 [.ref b0, .int v1, .int v2] σ (some (.int z.1)) z.2 := by
  obtain ⟨hz, h⟩ := chkZ_ok h
  exact AM.bool hz rfl (Nat.le_of_ble_eq_true rfl) (fun X => wfX2_tellSore_e X b0 hb0 v1 v2 σ z h)
-- fX2_tellOne
def fX2_tellOne_e (b1 : Nat) (v2 : Int32) (σ : Sto) : Option (Int32 × Sto) := (fX2_letterAt v2 σ).bind fun q1 => if q1.1 = 104 then ((fX2_digitAt (v2 + (1 : Int32)) q1.2).bind fun q2 => (fX2_digitAt (v2 + (2 : Int32)) q2.2).bind fun q3 => (fX2_digitAt (v2 + (3 : Int32)) q3.2).bind fun q4 => (fX2_tellHe b1 q2.1 q3.1 q4.1 q4.2).bind fun q5 => some (q5.1, q5.2)) else (if q1.1 = 105 then ((fX2_letterAt (v2 + (1 : Int32)) q1.2).bind fun q6 => (fJ0_indexOf_0f7a4 5 (i2cI q6.1) q6.2).bind fun q7 => (fX2_cellAt (v2 + (2 : Int32)) q7.2).bind fun q8 => (fX2_tellItch b1 q7.1 q8.1 q8.2).bind fun q9 => some (q9.1, q9.2)) else (if q1.1 = 109 then ((fX2_digitAt (v2 + (1 : Int32)) q1.2).bind fun q10 => (fX2_tellSeam b1 q10.1 q10.2).bind fun q11 => some (q11.1, q11.2)) else (if q1.1 = 115 then ((fX2_cellAt (v2 + (1 : Int32)) q1.2).bind fun q12 => (fX2_tellStroke b1 q12.1 q12.2).bind fun q13 => some (q13.1, q13.2)) else ((fX2_cellAt (v2 + (1 : Int32)) q1.2).bind fun q14 => (fX2_digitAt (v2 + (3 : Int32)) q14.2).bind fun q15 => (fX2_tellSore b1 q14.1 q15.1 q15.2).bind fun q16 => some (q16.1, q16.2)))))
set_option maxRecDepth 100000 in
set_option maxHeartbeats 4000000 in
theorem wfX2_tellOne_e (X : Scr) (b1 : Nat) (hb1 : bk b1) (v2 : Int32) (σ : Sto) (z : Int32 × Sto) (h : fX2_tellOne_e b1 v2 σ = some z) : Rt X RX2 cX2_tellOne 3 (rmA 4 91) .ireturn 0 [(0, .ref 9), (1, .ref b1), (2, .int v2)] [] σ (some (.int z.1)) z.2 := by
  unfold fX2_tellOne_e at h
  refine Rt.aload_n 0 dX2_tellOne_0 rfl ?_
  refine Rt.iload_n 2 dX2_tellOne_1 rfl ?_
  obtain ⟨q1, e1, h⟩ := bnd h
  refine Rt.cV (mfX2_letterAt v2 _ q1 e1) lkX2_27 ly9 rfl rfl rfl ⟨Nat.le_of_ble_eq_true rfl, Nat.le_of_ble_eq_true rfl⟩ (Nat.le_of_ble_eq_true rfl) rfl dX2_tellOne_2 ?_
  by_cases sw1_0 : q1.1 = 104
  · replace h := (if_pos sw1_0).symm.trans h
    refine Rt.lsw 73 dX2_tellOne_5 (by decide) (by rw [sw1_0] <;> rfl) (by decide) ?_
    refine Rt.aload_n 1 dX2_tellOne_73 rfl ?_
    refine Rt.aload_n 0 dX2_tellOne_74 rfl ?_
    refine Rt.iload_n 2 dX2_tellOne_75 rfl ?_
    refine Rt.iconst 1 dX2_tellOne_76 (by decide) ?_
    refine Rt.iadd dX2_tellOne_77 ?_
    obtain ⟨q2, e2, h⟩ := bnd h
    refine Rt.cV (mfX2_digitAt (v2 + (1 : Int32)) _ q2 e2) lkX2_67 ly9 rfl rfl rfl ⟨Nat.le_of_ble_eq_true rfl, Nat.le_of_ble_eq_true rfl⟩ (Nat.le_of_ble_eq_true rfl) rfl dX2_tellOne_78 ?_
    refine Rt.aload_n 0 dX2_tellOne_81 rfl ?_
    refine Rt.iload_n 2 dX2_tellOne_82 rfl ?_
    refine Rt.iconst 2 dX2_tellOne_83 (by decide) ?_
    refine Rt.iadd dX2_tellOne_84 ?_
    obtain ⟨q3, e3, h⟩ := bnd h
    refine Rt.cV (mfX2_digitAt (v2 + (2 : Int32)) _ q3 e3) lkX2_67 ly9 rfl rfl rfl ⟨Nat.le_of_ble_eq_true rfl, Nat.le_of_ble_eq_true rfl⟩ (Nat.le_of_ble_eq_true rfl) rfl dX2_tellOne_85 ?_
    refine Rt.aload_n 0 dX2_tellOne_88 rfl ?_
    refine Rt.iload_n 2 dX2_tellOne_89 rfl ?_
    refine Rt.iconst 3 dX2_tellOne_90 (by decide) ?_
    refine Rt.iadd dX2_tellOne_91 ?_
    obtain ⟨q4, e4, h⟩ := bnd h
    refine Rt.cV (mfX2_digitAt (v2 + (3 : Int32)) _ q4 e4) lkX2_67 ly9 rfl rfl rfl ⟨Nat.le_of_ble_eq_true rfl, Nat.le_of_ble_eq_true rfl⟩ (Nat.le_of_ble_eq_true rfl) rfl dX2_tellOne_92 ?_
    obtain ⟨q5, e5, h⟩ := bnd h
    refine Rt.cS (mfX2_tellHe b1 hb1 q2.1 q3.1 q4.1 _ q5 e5) lkX2_77 rfl ⟨Nat.le_of_ble_eq_true rfl, Nat.le_of_ble_eq_true rfl⟩ (Nat.le_of_ble_eq_true rfl) rfl dX2_tellOne_95 ?_
    obtain rfl := Option.some.inj h
    exact Rt.ret (v := some (.int q5.1)) dX2_tellOne_98 rfl rfl rfl
  · replace h := (if_neg sw1_0).symm.trans h
    by_cases sw1_1 : q1.1 = 105
    · replace h := (if_pos sw1_1).symm.trans h
      refine Rt.lsw 48 dX2_tellOne_5 (by decide) (by rw [sw1_1] <;> rfl) (by decide) ?_
      refine Rt.aload_n 1 dX2_tellOne_48 rfl ?_
      refine Rt.ldcT 5 (by decide) rfl rfl dX2_tellOne_49 ?_
      refine Rt.aload_n 0 dX2_tellOne_51 rfl ?_
      refine Rt.iload_n 2 dX2_tellOne_52 rfl ?_
      refine Rt.iconst 1 dX2_tellOne_53 (by decide) ?_
      refine Rt.iadd dX2_tellOne_54 ?_
      obtain ⟨q6, e6, h⟩ := bnd h
      refine Rt.cV (mfX2_letterAt (v2 + (1 : Int32)) _ q6 e6) lkX2_27 ly9 rfl rfl rfl ⟨Nat.le_of_ble_eq_true rfl, Nat.le_of_ble_eq_true rfl⟩ (Nat.le_of_ble_eq_true rfl) rfl dX2_tellOne_55 ?_
      refine Rt.toC dX2_tellOne_58 ?_
      obtain ⟨q7, e7, h⟩ := bnd h
      refine Rt.cVT (mfJ0_indexOf_0f7a4 5 (by decide) (i2cI q6.1) _ q7 e7) lkX2_64 (by decide) rfl rfl ⟨Nat.le_of_ble_eq_true rfl, Nat.le_of_ble_eq_true rfl⟩ (Nat.le_of_ble_eq_true rfl) rfl dX2_tellOne_59 ?_
      refine Rt.aload_n 0 dX2_tellOne_62 rfl ?_
      refine Rt.iload_n 2 dX2_tellOne_63 rfl ?_
      refine Rt.iconst 2 dX2_tellOne_64 (by decide) ?_
      refine Rt.iadd dX2_tellOne_65 ?_
      obtain ⟨q8, e8, h⟩ := bnd h
      refine Rt.cV (mfX2_cellAt (v2 + (2 : Int32)) _ q8 e8) lkX2_70 ly9 rfl rfl rfl ⟨Nat.le_of_ble_eq_true rfl, Nat.le_of_ble_eq_true rfl⟩ (Nat.le_of_ble_eq_true rfl) rfl dX2_tellOne_66 ?_
      obtain ⟨q9, e9, h⟩ := bnd h
      refine Rt.cS (mfX2_tellItch b1 hb1 q7.1 q8.1 _ q9 e9) lkX2_73 rfl ⟨Nat.le_of_ble_eq_true rfl, Nat.le_of_ble_eq_true rfl⟩ (Nat.le_of_ble_eq_true rfl) rfl dX2_tellOne_69 ?_
      obtain rfl := Option.some.inj h
      exact Rt.ret (v := some (.int q9.1)) dX2_tellOne_72 rfl rfl rfl
    · replace h := (if_neg sw1_1).symm.trans h
      by_cases sw1_2 : q1.1 = 109
      · replace h := (if_pos sw1_2).symm.trans h
        refine Rt.lsw 99 dX2_tellOne_5 (by decide) (by rw [sw1_2] <;> rfl) (by decide) ?_
        refine Rt.aload_n 1 dX2_tellOne_99 rfl ?_
        refine Rt.aload_n 0 dX2_tellOne_100 rfl ?_
        refine Rt.iload_n 2 dX2_tellOne_101 rfl ?_
        refine Rt.iconst 1 dX2_tellOne_102 (by decide) ?_
        refine Rt.iadd dX2_tellOne_103 ?_
        obtain ⟨q10, e10, h⟩ := bnd h
        refine Rt.cV (mfX2_digitAt (v2 + (1 : Int32)) _ q10 e10) lkX2_67 ly9 rfl rfl rfl ⟨Nat.le_of_ble_eq_true rfl, Nat.le_of_ble_eq_true rfl⟩ (Nat.le_of_ble_eq_true rfl) rfl dX2_tellOne_104 ?_
        obtain ⟨q11, e11, h⟩ := bnd h
        refine Rt.cS (mfX2_tellSeam b1 hb1 q10.1 _ q11 e11) lkX2_81 rfl ⟨Nat.le_of_ble_eq_true rfl, Nat.le_of_ble_eq_true rfl⟩ (Nat.le_of_ble_eq_true rfl) rfl dX2_tellOne_107 ?_
        obtain rfl := Option.some.inj h
        exact Rt.ret (v := some (.int q11.1)) dX2_tellOne_110 rfl rfl rfl
      · replace h := (if_neg sw1_2).symm.trans h
        by_cases sw1_3 : q1.1 = 115
        · replace h := (if_pos sw1_3).symm.trans h
          refine Rt.lsw 111 dX2_tellOne_5 (by decide) (by rw [sw1_3] <;> rfl) (by decide) ?_
          refine Rt.aload_n 1 dX2_tellOne_111 rfl ?_
          refine Rt.aload_n 0 dX2_tellOne_112 rfl ?_
          refine Rt.iload_n 2 dX2_tellOne_113 rfl ?_
          refine Rt.iconst 1 dX2_tellOne_114 (by decide) ?_
          refine Rt.iadd dX2_tellOne_115 ?_
          obtain ⟨q12, e12, h⟩ := bnd h
          refine Rt.cV (mfX2_cellAt (v2 + (1 : Int32)) _ q12 e12) lkX2_70 ly9 rfl rfl rfl ⟨Nat.le_of_ble_eq_true rfl, Nat.le_of_ble_eq_true rfl⟩ (Nat.le_of_ble_eq_true rfl) rfl dX2_tellOne_116 ?_
          obtain ⟨q13, e13, h⟩ := bnd h
          refine Rt.cS (mfX2_tellStroke b1 hb1 q12.1 _ q13 e13) lkX2_84 rfl ⟨Nat.le_of_ble_eq_true rfl, Nat.le_of_ble_eq_true rfl⟩ (Nat.le_of_ble_eq_true rfl) rfl dX2_tellOne_119 ?_
          obtain rfl := Option.some.inj h
          exact Rt.ret (v := some (.int q13.1)) dX2_tellOne_122 rfl rfl rfl
        · replace h := (if_neg sw1_3).symm.trans h
          have w0 := nti 104 (k := 104) rfl sw1_0
          have w1 := nti 105 (k := 105) rfl sw1_1
          have w2 := nti 109 (k := 109) rfl sw1_2
          have w3 := nti 115 (k := 115) rfl sw1_3
          refine Rt.lswOut 123 dX2_tellOne_5 (by decide) (fun q hq => by simp at hq; rcases hq with e | e | e | e <;> subst e <;> first | exact Ne.symm w0 | exact Ne.symm w1 | exact Ne.symm w2 | exact Ne.symm w3) (by decide) ?_
          refine Rt.aload_n 1 dX2_tellOne_123 rfl ?_
          refine Rt.aload_n 0 dX2_tellOne_124 rfl ?_
          refine Rt.iload_n 2 dX2_tellOne_125 rfl ?_
          refine Rt.iconst 1 dX2_tellOne_126 (by decide) ?_
          refine Rt.iadd dX2_tellOne_127 ?_
          obtain ⟨q14, e14, h⟩ := bnd h
          refine Rt.cV (mfX2_cellAt (v2 + (1 : Int32)) _ q14 e14) lkX2_70 ly9 rfl rfl rfl ⟨Nat.le_of_ble_eq_true rfl, Nat.le_of_ble_eq_true rfl⟩ (Nat.le_of_ble_eq_true rfl) rfl dX2_tellOne_128 ?_
          refine Rt.aload_n 0 dX2_tellOne_131 rfl ?_
          refine Rt.iload_n 2 dX2_tellOne_132 rfl ?_
          refine Rt.iconst 3 dX2_tellOne_133 (by decide) ?_
          refine Rt.iadd dX2_tellOne_134 ?_
          obtain ⟨q15, e15, h⟩ := bnd h
          refine Rt.cV (mfX2_digitAt (v2 + (3 : Int32)) _ q15 e15) lkX2_67 ly9 rfl rfl rfl ⟨Nat.le_of_ble_eq_true rfl, Nat.le_of_ble_eq_true rfl⟩ (Nat.le_of_ble_eq_true rfl) rfl dX2_tellOne_135 ?_
          obtain ⟨q16, e16, h⟩ := bnd h
          refine Rt.cS (mfX2_tellSore b1 hb1 q14.1 q15.1 _ q16 e16) lkX2_87 rfl ⟨Nat.le_of_ble_eq_true rfl, Nat.le_of_ble_eq_true rfl⟩ (Nat.le_of_ble_eq_true rfl) rfl dX2_tellOne_138 ?_
          obtain rfl := Option.some.inj h
          exact Rt.ret (v := some (.int q16.1)) dX2_tellOne_141 rfl rfl rfl
def fX2_tellOne (b1 : Nat) (v2 : Int32) (σ : Sto) : Option (Int32 × Sto) := (fX2_tellOne_e b1 v2 σ).bind chkZ
set_option maxRecDepth 100000 in
set_option maxHeartbeats 4000000 in
theorem mfX2_tellOne (b1 : Nat) (hb1 : bk b1) (v2 : Int32) (σ : Sto) (z : Int32 × Sto) (h : fX2_tellOne b1 v2 σ = some z) : AM yX2_tellOne cX2_tellOne 3 (some .boolean) 4 91 [.ref 9, .ref b1, .int v2] σ (some (.int z.1)) z.2 := by
  obtain ⟨hz, h⟩ := chkZ_ok h
  exact AM.bool hz rfl (Nat.le_of_ble_eq_true rfl) (fun X => wfX2_tellOne_e X b1 hb1 v2 σ z h)
-- fX2_tellTo
def fX2_tellTo_l23 (b1 : Nat) : Nat → Int32 → Int32 → Int32 → Sto → Option (Int32 × Sto)
  | 0, _, _, _, _ => none
  | n + 1, v3, v4, v5, σ => if (80 : Int32) ≤ v5 then (some (v3, σ)) else (if (σ 9 1) ≤ v4 then (some (v3, σ)) else ((fX2_tellOne b1 v4 σ).bind fun q2 => if q2.1 = 0 then (some (((-2000 : Int32) - v4), q2.2)) else ((fX2_letterAt v4 q2.2).bind fun q3 => (fX2_shapeOf q3.1 q3.2).bind fun q4 => if q4.1 < 6 then ((fJ0_length_8abf5 q4.1 q4.2).bind fun q5 => fX2_tellTo_l23 b1 n (v3 + (1 : Int32)) (v4 + ((1 : Int32) + q5.1)) (v5 + (1 : Int32)) q5.2) else none)))
set_option maxRecDepth 100000 in
set_option maxHeartbeats 4000000 in
theorem wfX2_tellTo_l23 (X : Scr) (b1 : Nat) (hb1 : bk b1) : ∀ (n : Nat) (v3 : Int32) (v4 : Int32) (v5 : Int32) (σ : Sto) (z : Int32 × Sto), fX2_tellTo_l23 b1 n v3 v4 v5 σ = some z → Rt X RX2 cX2_tellTo 6 (rmA 6 136) .ireturn 23 [(0, .ref 9), (1, .ref b1), (3, .int v3), (4, .int v4), (5, .int v5)] [] σ (some (.int z.1)) z.2 := by
  intro n
  induction n with
  | zero =>
    intro v3 v4 v5 σ z h
    rw [fX2_tellTo_l23] at h
    cases h
  | succ n ih =>
    intro v3 v4 v5 σ z h
    rw [fX2_tellTo_l23] at h
    refine Rt.iload 4 dX2_tellTo_23 rfl ?_
    refine Rt.bipush 80 dX2_tellTo_25 (by decide) ?_
    refine Rt.icmp_ge 88 dX2_tellTo_27 (by decide) (fun c2 => ?_) (fun c2 => ?_)
    · replace h := (if_pos c2).symm.trans h
      refine Rt.iload_n 2 dX2_tellTo_88 rfl ?_
      obtain rfl := Option.some.inj h
      exact Rt.ret (v := some (.int v3)) dX2_tellTo_89 rfl rfl rfl
    · replace h := (if_neg c2).symm.trans h
      refine Rt.iload 3 dX2_tellTo_30 rfl ?_
      refine Rt.aload_n 0 dX2_tellTo_32 rfl ?_
      refine gfX2_15 ly9 dX2_tellTo_33 ?_
      refine Rt.icmp_ge 88 dX2_tellTo_36 (by decide) (fun c3 => ?_) (fun c3 => ?_)
      · replace h := (if_pos c3).symm.trans h
        refine Rt.iload_n 2 dX2_tellTo_88 rfl ?_
        obtain rfl := Option.some.inj h
        exact Rt.ret (v := some (.int v3)) dX2_tellTo_89 rfl rfl rfl
      · replace h := (if_neg c3).symm.trans h
        refine Rt.aload_n 1 dX2_tellTo_39 rfl ?_
        refine Rt.ifnull dX2_tellTo_40 ?_
        refine Rt.aload_n 0 dX2_tellTo_43 rfl ?_
        refine Rt.aload_n 1 dX2_tellTo_44 rfl ?_
        refine Rt.iload 3 dX2_tellTo_45 rfl ?_
        obtain ⟨q2, e2, h⟩ := bnd h
        refine Rt.cV (mfX2_tellOne b1 hb1 v4 _ q2 e2) lkX2_23 ly9 rfl rfl rfl ⟨Nat.le_of_ble_eq_true rfl, Nat.le_of_ble_eq_true rfl⟩ (Nat.le_of_ble_eq_true rfl) rfl dX2_tellTo_47 ?_
        refine Rt.if_ne 60 dX2_tellTo_50 (by decide) (fun c4 => ?_) (fun c4 => ?_)
        · replace h := (if_neg c4).symm.trans h
          refine Rt.iload 3 dX2_tellTo_60 rfl ?_
          refine Rt.iconst 1 dX2_tellTo_62 (by decide) ?_
          refine Rt.aload_n 0 dX2_tellTo_63 rfl ?_
          refine Rt.iload 3 dX2_tellTo_64 rfl ?_
          obtain ⟨q3, e3, h⟩ := bnd h
          refine Rt.cV (mfX2_letterAt v4 _ q3 e3) lkX2_27 ly9 rfl rfl rfl ⟨Nat.le_of_ble_eq_true rfl, Nat.le_of_ble_eq_true rfl⟩ (Nat.le_of_ble_eq_true rfl) rfl dX2_tellTo_66 ?_
          obtain ⟨q4, e4, h⟩ := bnd h
          refine Rt.cS (mfX2_shapeOf q3.1 _ q4 e4) lkX2_31 rfl ⟨Nat.le_of_ble_eq_true rfl, Nat.le_of_ble_eq_true rfl⟩ (Nat.le_of_ble_eq_true rfl) rfl dX2_tellTo_69 ?_
          obtain ⟨g5, h⟩ := gd h
          obtain ⟨q5, e5, h⟩ := bnd h
          refine Rt.cVT (mfJ0_length_8abf5 q4.1 g5 _ q5 e5) lkX2_35 g5 rfl rfl ⟨Nat.le_of_ble_eq_true rfl, Nat.le_of_ble_eq_true rfl⟩ (Nat.le_of_ble_eq_true rfl) rfl dX2_tellTo_72 ?_
          refine Rt.iadd dX2_tellTo_75 ?_
          refine Rt.iadd dX2_tellTo_76 ?_
          refine Rt.istore [(4, _), (0, _), (1, _), (3, _), (5, _)] dX2_tellTo_77 (by decide) rfl ?_
          refine Rt.iinc [(3, _), (4, _), (0, _), (1, _), (5, _)] (v3 + (1 : Int32)) 3 dX2_tellTo_79 rfl rfl (by decide) rfl ?_
          refine Rt.iinc [(5, _), (3, _), (4, _), (0, _), (1, _)] (v5 + (1 : Int32)) 4 dX2_tellTo_82 rfl rfl (by decide) rfl ?_
          refine Rt.goto 23 dX2_tellTo_85 (by decide) ?_
          refine Rt.pick [3, 4, 1, 2, 0] rfl ?_
          exact ih (v3 + (1 : Int32)) (v4 + ((1 : Int32) + q5.1)) (v5 + (1 : Int32)) _ z h
        · replace h := (if_pos c4).symm.trans h
          refine Rt.sipush (-2000) dX2_tellTo_53 (by decide) ?_
          refine Rt.iload 3 dX2_tellTo_56 rfl ?_
          refine Rt.isub dX2_tellTo_58 ?_
          obtain rfl := Option.some.inj h
          exact Rt.ret (v := some (.int ((-2000 : Int32) - v4))) dX2_tellTo_59 rfl rfl rfl
def fX2_tellTo (b1 : Nat) (σ : Sto) : Option (Int32 × Sto) := (fX2_firstWrong σ).bind fun q1 => if q1.1 < 0 then (fX2_tellTo_l23 b1 300 (0 : Int32) (0 : Int32) (0 : Int32) q1.2) else (some (((-1000 : Int32) - q1.1), q1.2))
set_option maxRecDepth 100000 in
set_option maxHeartbeats 4000000 in
theorem wfX2_tellTo (X : Scr) (b1 : Nat) (hb1 : bk b1) (σ : Sto) (z : Int32 × Sto) (h : fX2_tellTo b1 σ = some z) : Rt X RX2 cX2_tellTo 6 (rmA 6 136) .ireturn 0 [(0, .ref 9), (1, .ref b1)] [] σ (some (.int z.1)) z.2 := by
  unfold fX2_tellTo at h
  refine Rt.aload_n 0 dX2_tellTo_0 rfl ?_
  obtain ⟨q1, e1, h⟩ := bnd h
  refine Rt.cV (mfX2_firstWrong _ q1 e1) lkX2_19 ly9 rfl rfl rfl ⟨Nat.le_of_ble_eq_true rfl, Nat.le_of_ble_eq_true rfl⟩ (Nat.le_of_ble_eq_true rfl) rfl dX2_tellTo_1 ?_
  refine Rt.istore_n [(2, _), (0, _), (1, _)] dX2_tellTo_4 (by decide) rfl ?_
  refine Rt.iload_n 0 dX2_tellTo_5 rfl ?_
  refine Rt.if_lt 15 dX2_tellTo_6 (by decide) (fun c1 => ?_) (fun c1 => ?_)
  · replace h := (if_pos c1).symm.trans h
    refine Rt.iconst 0 dX2_tellTo_15 (by decide) ?_
    refine Rt.istore_n [(3, _), (2, _), (0, _), (1, _)] dX2_tellTo_16 (by decide) rfl ?_
    refine Rt.iconst 0 dX2_tellTo_17 (by decide) ?_
    refine Rt.istore [(4, _), (3, _), (2, _), (0, _), (1, _)] dX2_tellTo_18 (by decide) rfl ?_
    refine Rt.iconst 0 dX2_tellTo_20 (by decide) ?_
    refine Rt.istore [(5, _), (4, _), (3, _), (2, _), (0, _), (1, _)] dX2_tellTo_21 (by decide) rfl ?_
    refine Rt.pick [4, 5, 2, 1, 0] rfl ?_
    exact wfX2_tellTo_l23 X b1 hb1 300 (0 : Int32) (0 : Int32) (0 : Int32) _ z h
  · replace h := (if_neg c1).symm.trans h
    refine Rt.sipush (-1000) dX2_tellTo_9 (by decide) ?_
    refine Rt.iload_n 0 dX2_tellTo_12 rfl ?_
    refine Rt.isub dX2_tellTo_13 ?_
    obtain rfl := Option.some.inj h
    exact Rt.ret (v := some (.int ((-1000 : Int32) - q1.1))) dX2_tellTo_14 rfl rfl rfl
set_option maxRecDepth 100000 in
set_option maxHeartbeats 4000000 in
theorem mfX2_tellTo (b1 : Nat) (hb1 : bk b1) (σ : Sto) (z : Int32 × Sto) (h : fX2_tellTo b1 σ = some z) : AM yX2_tellTo cX2_tellTo 6 (some .int) 6 136 [.ref 9, .ref b1] σ (some (.int z.1)) z.2 := AM.int rfl (Nat.le_of_ble_eq_true rfl) (fun X => wfX2_tellTo X b1 hb1 σ z h)
-- fX3_back
def fX3_back_b31 (v1 : Int32) (σ : Sto) : Option (Int32 × Sto) := if v1 ≤ 0 then (some (v1, σ)) else ((fX0_take 1 5 σ).bind fun q3 => some (v1, q3.2))
set_option maxRecDepth 100000 in
set_option maxHeartbeats 4000000 in
theorem wfX3_back_b31 (X : Scr) (v1 : Int32) (σ : Sto) (z : Int32 × Sto) (h : fX3_back_b31 v1 σ = some z) : Rt X RX3 cX3_back 2 (rmA 7 161) .ireturn 31 [(0, .ref 0), (1, .int v1)] [] σ (some (.int z.1)) z.2 := by
  unfold fX3_back_b31 at h
  refine Rt.iload_n 1 dX3_back_31 rfl ?_
  refine Rt.if_le 46 dX3_back_32 (by decide) (fun c1 => ?_) (fun c1 => ?_)
  · replace h := (if_pos c1).symm.trans h
    refine Rt.iload_n 1 dX3_back_46 rfl ?_
    obtain rfl := Option.some.inj h
    exact Rt.ret (v := some (.int v1)) dX3_back_47 rfl rfl rfl
  · replace h := (if_neg c1).symm.trans h
    refine Rt.aload_n 0 dX3_back_35 rfl ?_
    refine gfX3_10 ly0 dX3_back_36 ?_
    refine Rt.aload_n 0 dX3_back_39 rfl ?_
    refine gfX3_19 ly0 dX3_back_40 ?_
    obtain ⟨q3, e3, h⟩ := bnd h
    refine Rt.cVN0 (mfX0_take 1 bk1 5 bk5 _ q3 e3) lkX3_67 bk1.1 rfl rfl rfl ⟨Nat.le_of_ble_eq_true rfl, Nat.le_of_ble_eq_true rfl⟩ (Nat.le_of_ble_eq_true rfl) rfl dX3_back_43 ?_
    refine Rt.iload_n 1 dX3_back_46 rfl ?_
    obtain rfl := Option.some.inj h
    exact Rt.ret (v := some (.int v1)) dX3_back_47 rfl rfl rfl
def fX3_back (σ : Sto) : Option (Int32 × Sto) := (fX0_take 5 1 σ).bind fun q1 => (fX2_tellTo 5 q1.2).bind fun q2 => fX3_back_b31 q2.1 (upS q2.2 9 1 (0 : Int32))
set_option maxRecDepth 100000 in
set_option maxHeartbeats 4000000 in
theorem wfX3_back (X : Scr) (σ : Sto) (z : Int32 × Sto) (h : fX3_back σ = some z) : Rt X RX3 cX3_back 2 (rmA 7 161) .ireturn 0 [(0, .ref 0)] [] σ (some (.int z.1)) z.2 := by
  unfold fX3_back at h
  refine Rt.aload_n 0 dX3_back_0 rfl ?_
  refine gfX3_19 ly0 dX3_back_1 ?_
  refine Rt.aload_n 0 dX3_back_4 rfl ?_
  refine gfX3_10 ly0 dX3_back_5 ?_
  obtain ⟨q1, e1, h⟩ := bnd h
  refine Rt.cVN0 (mfX0_take 5 bk5 1 bk1 _ q1 e1) lkX3_67 bk5.1 rfl rfl rfl ⟨Nat.le_of_ble_eq_true rfl, Nat.le_of_ble_eq_true rfl⟩ (Nat.le_of_ble_eq_true rfl) rfl dX3_back_8 ?_
  refine Rt.aload_n 0 dX3_back_11 rfl ?_
  refine gfX3_28 ly0 dX3_back_12 ?_
  refine Rt.aload_n 0 dX3_back_15 rfl ?_
  refine gfX3_19 ly0 dX3_back_16 ?_
  obtain ⟨q2, e2, h⟩ := bnd h
  refine Rt.cVN (mfX2_tellTo 5 bk5 _ q2 e2) lkX3_71 ly9 rfl rfl rfl ⟨Nat.le_of_ble_eq_true rfl, Nat.le_of_ble_eq_true rfl⟩ (Nat.le_of_ble_eq_true rfl) rfl dX3_back_19 ?_
  refine Rt.istore_n [(1, _), (0, _)] dX3_back_22 (by decide) rfl ?_
  refine Rt.aload_n 1 dX3_back_23 rfl ?_
  refine gfX3_28 ly0 dX3_back_24 ?_
  refine Rt.iconst 0 dX3_back_27 (by decide) ?_
  refine pfX3_61 ly9 dX3_back_28 ?_
  refine Rt.pick [1, 0] rfl ?_
  exact wfX3_back_b31 X q2.1 _ z h
set_option maxRecDepth 100000 in
set_option maxHeartbeats 4000000 in
theorem mfX3_back (σ : Sto) (z : Int32 × Sto) (h : fX3_back σ = some z) : AM yX3_back cX3_back 2 (some .int) 7 161 [.ref 0] σ (some (.int z.1)) z.2 := AM.int rfl (Nat.le_of_ble_eq_true rfl) (fun X => wfX3_back X σ z h)
-- fX3_itch
def fX3_itch (v1 : Int32) (σ : Sto) : Option (Int32 × Sto) := (fX3_isNot v1 (2 : Int32) σ).bind fun q1 => if q1.1 = 0 then (if v1 = 0 then (some ((q1.2 1 1), q1.2)) else (some ((q1.2 1 2), q1.2))) else ((fX3_refuse (-2 : Int32) q1.2).bind fun q2 => some (q2.1, q2.2))
set_option maxRecDepth 100000 in
set_option maxHeartbeats 4000000 in
theorem wfX3_itch (X : Scr) (v1 : Int32) (σ : Sto) (z : Int32 × Sto) (h : fX3_itch v1 σ = some z) : Rt X RX3 cX3_itch 2 (rmA 1 22) .ireturn 0 [(0, .ref 0), (1, .int v1)] [] σ (some (.int z.1)) z.2 := by
  unfold fX3_itch at h
  refine Rt.iload_n 1 dX3_itch_0 rfl ?_
  refine Rt.iconst 2 dX3_itch_1 (by decide) ?_
  obtain ⟨q1, e1, h⟩ := bnd h
  refine Rt.cS (mfX3_isNot v1 (2 : Int32) _ q1 e1) lkX3_75 rfl ⟨Nat.le_of_ble_eq_true rfl, Nat.le_of_ble_eq_true rfl⟩ (Nat.le_of_ble_eq_true rfl) rfl dX3_itch_2 ?_
  refine Rt.if_eq 15 dX3_itch_5 (by decide) (fun c1 => ?_) (fun c1 => ?_)
  · replace h := (if_pos c1).symm.trans h
    refine Rt.iload_n 1 dX3_itch_15 rfl ?_
    refine Rt.if_ne 29 dX3_itch_16 (by decide) (fun c2 => ?_) (fun c2 => ?_)
    · replace h := (if_neg c2).symm.trans h
      refine Rt.aload_n 0 dX3_itch_29 rfl ?_
      refine gfX3_10 ly0 dX3_itch_30 ?_
      refine gfX3_82 bk1.1 dX3_itch_33 ?_
      obtain rfl := Option.some.inj h
      exact Rt.ret (v := some (.int (q1.2 1 2))) dX3_itch_36 rfl rfl rfl
    · replace h := (if_pos c2).symm.trans h
      refine Rt.aload_n 0 dX3_itch_19 rfl ?_
      refine gfX3_10 ly0 dX3_itch_20 ?_
      refine gfX3_79 bk1.1 dX3_itch_23 ?_
      refine Rt.goto 36 dX3_itch_26 (by decide) ?_
      obtain rfl := Option.some.inj h
      exact Rt.ret (v := some (.int (q1.2 1 1))) dX3_itch_36 rfl rfl rfl
  · replace h := (if_neg c1).symm.trans h
    refine Rt.aload_n 0 dX3_itch_8 rfl ?_
    refine Rt.bipush (-2) dX3_itch_9 (by decide) ?_
    obtain ⟨q2, e2, h⟩ := bnd h
    refine Rt.cV (mfX3_refuse (-2 : Int32) _ q2 e2) lkX3_57 ly0 rfl rfl rfl ⟨Nat.le_of_ble_eq_true rfl, Nat.le_of_ble_eq_true rfl⟩ (Nat.le_of_ble_eq_true rfl) rfl dX3_itch_11 ?_
    obtain rfl := Option.some.inj h
    exact Rt.ret (v := some (.int q2.1)) dX3_itch_14 rfl rfl rfl
set_option maxRecDepth 100000 in
set_option maxHeartbeats 4000000 in
theorem mfX3_itch (v1 : Int32) (σ : Sto) (z : Int32 × Sto) (h : fX3_itch v1 σ = some z) : AM yX3_itch cX3_itch 2 (some .int) 1 22 [.ref 0, .int v1] σ (some (.int z.1)) z.2 := AM.int rfl (Nat.le_of_ble_eq_true rfl) (fun X => wfX3_itch X v1 σ z h)
-- fX3_sore
def fX3_sore (v1 : Int32) (σ : Sto) : Option (Int32 × Sto) := (fX3_isNoCell v1 σ).bind fun q1 => if q1.1 = 0 then ((fX0_soreAt 1 v1 q1.2).bind fun q2 => some (q2.1, q2.2)) else ((fX3_refuse (-1 : Int32) q1.2).bind fun q3 => some (q3.1, q3.2))
set_option maxRecDepth 100000 in
set_option maxHeartbeats 4000000 in
theorem wfX3_sore (X : Scr) (v1 : Int32) (σ : Sto) (z : Int32 × Sto) (h : fX3_sore v1 σ = some z) : Rt X RX3 cX3_sore 2 (rmA 1 22) .ireturn 0 [(0, .ref 0), (1, .int v1)] [] σ (some (.int z.1)) z.2 := by
  unfold fX3_sore at h
  refine Rt.iload_n 1 dX3_sore_0 rfl ?_
  obtain ⟨q1, e1, h⟩ := bnd h
  refine Rt.cS (mfX3_isNoCell v1 _ q1 e1) lkX3_85 rfl ⟨Nat.le_of_ble_eq_true rfl, Nat.le_of_ble_eq_true rfl⟩ (Nat.le_of_ble_eq_true rfl) rfl dX3_sore_1 ?_
  refine Rt.if_eq 15 dX3_sore_4 (by decide) (fun c1 => ?_) (fun c1 => ?_)
  · replace h := (if_pos c1).symm.trans h
    refine Rt.aload_n 0 dX3_sore_15 rfl ?_
    refine gfX3_10 ly0 dX3_sore_16 ?_
    refine Rt.iload_n 1 dX3_sore_19 rfl ?_
    obtain ⟨q2, e2, h⟩ := bnd h
    refine Rt.cVN (mfX0_soreAt 1 bk1 v1 _ q2 e2) lkX3_89 bk1.1 rfl rfl rfl ⟨Nat.le_of_ble_eq_true rfl, Nat.le_of_ble_eq_true rfl⟩ (Nat.le_of_ble_eq_true rfl) rfl dX3_sore_20 ?_
    obtain rfl := Option.some.inj h
    exact Rt.ret (v := some (.int q2.1)) dX3_sore_23 rfl rfl rfl
  · replace h := (if_neg c1).symm.trans h
    refine Rt.aload_n 0 dX3_sore_7 rfl ?_
    refine Rt.iconst (-1) dX3_sore_8 (by decide) ?_
    obtain ⟨q3, e3, h⟩ := bnd h
    refine Rt.cV (mfX3_refuse (-1 : Int32) _ q3 e3) lkX3_57 ly0 rfl rfl rfl ⟨Nat.le_of_ble_eq_true rfl, Nat.le_of_ble_eq_true rfl⟩ (Nat.le_of_ble_eq_true rfl) rfl dX3_sore_9 ?_
    refine Rt.goto 23 dX3_sore_12 (by decide) ?_
    obtain rfl := Option.some.inj h
    exact Rt.ret (v := some (.int q3.1)) dX3_sore_23 rfl rfl rfl
set_option maxRecDepth 100000 in
set_option maxHeartbeats 4000000 in
theorem mfX3_sore (v1 : Int32) (σ : Sto) (z : Int32 × Sto) (h : fX3_sore v1 σ = some z) : AM yX3_sore cX3_sore 2 (some .int) 1 22 [.ref 0, .int v1] σ (some (.int z.1)) z.2 := AM.int rfl (Nat.le_of_ble_eq_true rfl) (fun X => wfX3_sore X v1 σ z h)
-- fX3_heal
def fX3_heal (v1 : Int32) (σ : Sto) : Option (Int32 × Sto) := (fX3_isNoCell v1 σ).bind fun q1 => if q1.1 = 0 then ((fX0_soreAt 1 v1 q1.2).bind fun q2 => (fX0_setSore 1 v1 (0 : Int32) q2.2).bind fun q3 => some (q2.1, q3.2)) else ((fX3_refuse (-1 : Int32) q1.2).bind fun q4 => some (q4.1, q4.2))
set_option maxRecDepth 100000 in
set_option maxHeartbeats 4000000 in
theorem wfX3_heal (X : Scr) (v1 : Int32) (σ : Sto) (z : Int32 × Sto) (h : fX3_heal v1 σ = some z) : Rt X RX3 cX3_heal 3 (rmA 2 42) .ireturn 0 [(0, .ref 0), (1, .int v1)] [] σ (some (.int z.1)) z.2 := by
  unfold fX3_heal at h
  refine Rt.iload_n 1 dX3_heal_0 rfl ?_
  obtain ⟨q1, e1, h⟩ := bnd h
  refine Rt.cS (mfX3_isNoCell v1 _ q1 e1) lkX3_85 rfl ⟨Nat.le_of_ble_eq_true rfl, Nat.le_of_ble_eq_true rfl⟩ (Nat.le_of_ble_eq_true rfl) rfl dX3_heal_1 ?_
  refine Rt.if_eq 13 dX3_heal_4 (by decide) (fun c1 => ?_) (fun c1 => ?_)
  · replace h := (if_pos c1).symm.trans h
    refine Rt.aload_n 0 dX3_heal_13 rfl ?_
    refine gfX3_10 ly0 dX3_heal_14 ?_
    refine Rt.iload_n 1 dX3_heal_17 rfl ?_
    obtain ⟨q2, e2, h⟩ := bnd h
    refine Rt.cVN (mfX0_soreAt 1 bk1 v1 _ q2 e2) lkX3_89 bk1.1 rfl rfl rfl ⟨Nat.le_of_ble_eq_true rfl, Nat.le_of_ble_eq_true rfl⟩ (Nat.le_of_ble_eq_true rfl) rfl dX3_heal_18 ?_
    refine Rt.istore_n [(2, _), (0, _), (1, _)] dX3_heal_21 (by decide) rfl ?_
    refine Rt.aload_n 1 dX3_heal_22 rfl ?_
    refine gfX3_10 ly0 dX3_heal_23 ?_
    refine Rt.iload_n 2 dX3_heal_26 rfl ?_
    refine Rt.iconst 0 dX3_heal_27 (by decide) ?_
    obtain ⟨q3, e3, h⟩ := bnd h
    refine Rt.cVN0 (mfX0_setSore 1 bk1 v1 (0 : Int32) _ q3 e3) lkX3_92 bk1.1 rfl rfl rfl ⟨Nat.le_of_ble_eq_true rfl, Nat.le_of_ble_eq_true rfl⟩ (Nat.le_of_ble_eq_true rfl) rfl dX3_heal_28 ?_
    refine Rt.iload_n 0 dX3_heal_31 rfl ?_
    obtain rfl := Option.some.inj h
    exact Rt.ret (v := some (.int q2.1)) dX3_heal_32 rfl rfl rfl
  · replace h := (if_neg c1).symm.trans h
    refine Rt.aload_n 0 dX3_heal_7 rfl ?_
    refine Rt.iconst (-1) dX3_heal_8 (by decide) ?_
    obtain ⟨q4, e4, h⟩ := bnd h
    refine Rt.cV (mfX3_refuse (-1 : Int32) _ q4 e4) lkX3_57 ly0 rfl rfl rfl ⟨Nat.le_of_ble_eq_true rfl, Nat.le_of_ble_eq_true rfl⟩ (Nat.le_of_ble_eq_true rfl) rfl dX3_heal_9 ?_
    obtain rfl := Option.some.inj h
    exact Rt.ret (v := some (.int q4.1)) dX3_heal_12 rfl rfl rfl
set_option maxRecDepth 100000 in
set_option maxHeartbeats 4000000 in
theorem mfX3_heal (v1 : Int32) (σ : Sto) (z : Int32 × Sto) (h : fX3_heal v1 σ = some z) : AM yX3_heal cX3_heal 3 (some .int) 2 42 [.ref 0, .int v1] σ (some (.int z.1)) z.2 := AM.int rfl (Nat.le_of_ble_eq_true rfl) (fun X => wfX3_heal X v1 σ z h)
-- fX0_changeHe
def fX0_changeHe (k : Nat) (v1 : Int32) (v2 : Int32) (σ : Sto) : Option (Int32 × Sto) := if v1 = 0 then (some ((σ k 5), (upS σ k 5 v2))) else (if v1 = 1 then (some ((σ k 6), (upS σ k 6 v2))) else (if v1 = 2 then (some ((σ k 7), (upS σ k 7 v2))) else (some ((σ k 8), (upS σ k 8 v2)))))
set_option maxRecDepth 100000 in
set_option maxHeartbeats 4000000 in
theorem wfX0_changeHe (X : Scr) (k : Nat) (hk : bk k) (v1 : Int32) (v2 : Int32) (σ : Sto) (z : Int32 × Sto) (h : fX0_changeHe k v1 v2 σ = some z) : Rt X RX0 cX0_changeHe 4 (rmA 0 0) .ireturn 0 [(0, .ref k), (1, .int v1), (2, .int v2)] [] σ (some (.int z.1)) z.2 := by
  unfold fX0_changeHe at h
  refine Rt.iload_n 1 dX0_changeHe_0 rfl ?_
  by_cases sw1_0 : v1 = 0
  · replace h := (if_pos sw1_0).symm.trans h
    refine Rt.tsIn 28 dX0_changeHe_1 (by rw [sw1_0] <;> decide) (by rw [sw1_0] <;> decide) (by rw [sw1_0] <;> rfl) (by decide) ?_
    refine Rt.aload_n 0 dX0_changeHe_28 rfl ?_
    refine gfX0_28 hk.1 dX0_changeHe_29 ?_
    refine Rt.istore_n [(3, _), (0, _), (1, _), (2, _)] dX0_changeHe_32 (by decide) rfl ?_
    refine Rt.aload_n 1 dX0_changeHe_33 rfl ?_
    refine Rt.iload_n 3 dX0_changeHe_34 rfl ?_
    refine pfX0_28 hk.1 dX0_changeHe_35 ?_
    refine Rt.iload_n 0 dX0_changeHe_38 rfl ?_
    obtain rfl := Option.some.inj h
    exact Rt.ret (v := some (.int (σ k 5))) dX0_changeHe_39 rfl rfl rfl
  · replace h := (if_neg sw1_0).symm.trans h
    by_cases sw1_1 : v1 = 1
    · replace h := (if_pos sw1_1).symm.trans h
      refine Rt.tsIn 40 dX0_changeHe_1 (by rw [sw1_1] <;> decide) (by rw [sw1_1] <;> decide) (by rw [sw1_1] <;> rfl) (by decide) ?_
      refine Rt.aload_n 0 dX0_changeHe_40 rfl ?_
      refine gfX0_31 hk.1 dX0_changeHe_41 ?_
      refine Rt.istore_n [(3, _), (0, _), (1, _), (2, _)] dX0_changeHe_44 (by decide) rfl ?_
      refine Rt.aload_n 1 dX0_changeHe_45 rfl ?_
      refine Rt.iload_n 3 dX0_changeHe_46 rfl ?_
      refine pfX0_31 hk.1 dX0_changeHe_47 ?_
      refine Rt.iload_n 0 dX0_changeHe_50 rfl ?_
      obtain rfl := Option.some.inj h
      exact Rt.ret (v := some (.int (σ k 6))) dX0_changeHe_51 rfl rfl rfl
    · replace h := (if_neg sw1_1).symm.trans h
      by_cases sw1_2 : v1 = 2
      · replace h := (if_pos sw1_2).symm.trans h
        refine Rt.tsIn 52 dX0_changeHe_1 (by rw [sw1_2] <;> decide) (by rw [sw1_2] <;> decide) (by rw [sw1_2] <;> rfl) (by decide) ?_
        refine Rt.aload_n 0 dX0_changeHe_52 rfl ?_
        refine gfX0_34 hk.1 dX0_changeHe_53 ?_
        refine Rt.istore_n [(3, _), (0, _), (1, _), (2, _)] dX0_changeHe_56 (by decide) rfl ?_
        refine Rt.aload_n 1 dX0_changeHe_57 rfl ?_
        refine Rt.iload_n 3 dX0_changeHe_58 rfl ?_
        refine pfX0_34 hk.1 dX0_changeHe_59 ?_
        refine Rt.iload_n 0 dX0_changeHe_62 rfl ?_
        obtain rfl := Option.some.inj h
        exact Rt.ret (v := some (.int (σ k 7))) dX0_changeHe_63 rfl rfl rfl
      · replace h := (if_neg sw1_2).symm.trans h
        have hsw : (v1).toInt < 0 ∨ 2 < (v1).toInt := by
          have w0 := nti 0 (k := 0) rfl sw1_0
          have w1 := nti 1 (k := 1) rfl sw1_1
          have w2 := nti 2 (k := 2) rfl sw1_2
          omega
        refine Rt.tsOut 64 dX0_changeHe_1 hsw (by decide) ?_
        refine Rt.aload_n 0 dX0_changeHe_64 rfl ?_
        refine gfX0_37 hk.1 dX0_changeHe_65 ?_
        refine Rt.istore_n [(3, _), (0, _), (1, _), (2, _)] dX0_changeHe_68 (by decide) rfl ?_
        refine Rt.aload_n 1 dX0_changeHe_69 rfl ?_
        refine Rt.iload_n 3 dX0_changeHe_70 rfl ?_
        refine pfX0_37 hk.1 dX0_changeHe_71 ?_
        refine Rt.iload_n 0 dX0_changeHe_74 rfl ?_
        obtain rfl := Option.some.inj h
        exact Rt.ret (v := some (.int (σ k 8))) dX0_changeHe_75 rfl rfl rfl
set_option maxRecDepth 100000 in
set_option maxHeartbeats 4000000 in
theorem mfX0_changeHe (k : Nat) (hk : bk k) (v1 : Int32) (v2 : Int32) (σ : Sto) (z : Int32 × Sto) (h : fX0_changeHe k v1 v2 σ = some z) : AM yX0_changeHe cX0_changeHe 4 (some .int) 0 0 [.ref k, .int v1, .int v2] σ (some (.int z.1)) z.2 := AM.int rfl (Nat.le_of_ble_eq_true rfl) (fun X => wfX0_changeHe X k hk v1 v2 σ z h)
-- fX3_he
def fX3_he_b22 (σ : Sto) : Option (Int32 × Sto) := (fX3_refuse (-2 : Int32) σ).bind fun q2 => some (q2.1, q2.2)
set_option maxRecDepth 100000 in
set_option maxHeartbeats 4000000 in
theorem wfX3_he_b22 (X : Scr) (σ : Sto) (z : Int32 × Sto) (h : fX3_he_b22 σ = some z) : Rt X RX3 cX3_he 3 (rmA 1 23) .ireturn 22 [(0, .ref 0)] [] σ (some (.int z.1)) z.2 := by
  unfold fX3_he_b22 at h
  refine Rt.aload_n 0 dX3_he_22 rfl ?_
  refine Rt.bipush (-2) dX3_he_23 (by decide) ?_
  obtain ⟨q2, e2, h⟩ := bnd h
  refine Rt.cV (mfX3_refuse (-2 : Int32) _ q2 e2) lkX3_57 ly0 rfl rfl rfl ⟨Nat.le_of_ble_eq_true rfl, Nat.le_of_ble_eq_true rfl⟩ (Nat.le_of_ble_eq_true rfl) rfl dX3_he_25 ?_
  obtain rfl := Option.some.inj h
  exact Rt.ret (v := some (.int q2.1)) dX3_he_28 rfl rfl rfl
def fX3_he (v1 : Int32) (v2 : Int32) (σ : Sto) : Option (Int32 × Sto) := (fX3_isNot v1 (4 : Int32) σ).bind fun q1 => if q1.1 = 0 then ((fX3_isNot v1 (4 : Int32) q1.2).bind fun q3 => if q3.1 = 0 then (if inb v1 4 = true then (if (heL (v1).toNatClampNeg) ≤ v2 then (if inb v1 4 = true then (if v2 ≤ (heM (v1).toNatClampNeg) then ((fX0_changeHe 1 v1 v2 q3.2).bind fun q4 => some (q4.1, q4.2)) else ((fX3_refuse (-6 : Int32) q3.2).bind fun q5 => some (q5.1, q5.2))) else none) else ((fX3_refuse (-4 : Int32) q3.2).bind fun q6 => some (q6.1, q6.2))) else none) else (fX3_he_b22 q3.2)) else (fX3_he_b22 q1.2)
set_option maxRecDepth 100000 in
set_option maxHeartbeats 4000000 in
theorem wfX3_he (X : Scr) (v1 : Int32) (v2 : Int32) (σ : Sto) (z : Int32 × Sto) (h : fX3_he v1 v2 σ = some z) : Rt X RX3 cX3_he 3 (rmA 1 23) .ireturn 0 [(0, .ref 0), (1, .int v1), (2, .int v2)] [] σ (some (.int z.1)) z.2 := by
  unfold fX3_he at h
  refine Rt.iload_n 1 dX3_he_0 rfl ?_
  refine Rt.getsHL flX3_96 dX3_he_1 ?_
  refine Rt.alenHL dX3_he_4 ?_
  obtain ⟨q1, e1, h⟩ := bnd h
  refine Rt.cS (mfX3_isNot v1 (4 : Int32) _ q1 e1) lkX3_75 rfl ⟨Nat.le_of_ble_eq_true rfl, Nat.le_of_ble_eq_true rfl⟩ (Nat.le_of_ble_eq_true rfl) rfl dX3_he_5 ?_
  refine Rt.if_ne 22 dX3_he_8 (by decide) (fun c1 => ?_) (fun c1 => ?_)
  · replace h := (if_neg c1).symm.trans h
    refine Rt.pick [0] rfl ?_
    exact wfX3_he_b22 X _ z h
  · replace h := (if_pos c1).symm.trans h
    refine Rt.iload_n 1 dX3_he_11 rfl ?_
    refine Rt.getsHM flX3_99 dX3_he_12 ?_
    refine Rt.alenHM dX3_he_15 ?_
    obtain ⟨q3, e3, h⟩ := bnd h
    refine Rt.cS (mfX3_isNot v1 (4 : Int32) _ q3 e3) lkX3_75 rfl ⟨Nat.le_of_ble_eq_true rfl, Nat.le_of_ble_eq_true rfl⟩ (Nat.le_of_ble_eq_true rfl) rfl dX3_he_16 ?_
    refine Rt.if_eq 29 dX3_he_19 (by decide) (fun c2 => ?_) (fun c2 => ?_)
    · replace h := (if_pos c2).symm.trans h
      refine Rt.iload_n 2 dX3_he_29 rfl ?_
      refine Rt.getsHL flX3_96 dX3_he_30 ?_
      refine Rt.iload_n 1 dX3_he_33 rfl ?_
      obtain ⟨g3, h⟩ := gd h
      refine Rt.ialdHL g3 dX3_he_34 ?_
      refine Rt.icmp_ge 45 dX3_he_35 (by decide) (fun c4 => ?_) (fun c4 => ?_)
      · replace h := (if_pos c4).symm.trans h
        refine Rt.iload_n 2 dX3_he_45 rfl ?_
        refine Rt.getsHM flX3_99 dX3_he_46 ?_
        refine Rt.iload_n 1 dX3_he_49 rfl ?_
        obtain ⟨g5, h⟩ := gd h
        refine Rt.ialdHM g5 dX3_he_50 ?_
        refine Rt.icmp_le 61 dX3_he_51 (by decide) (fun c6 => ?_) (fun c6 => ?_)
        · replace h := (if_pos c6).symm.trans h
          refine Rt.aload_n 0 dX3_he_61 rfl ?_
          refine gfX3_10 ly0 dX3_he_62 ?_
          refine Rt.iload_n 1 dX3_he_65 rfl ?_
          refine Rt.iload_n 2 dX3_he_66 rfl ?_
          obtain ⟨q4, e4, h⟩ := bnd h
          refine Rt.cVN (mfX0_changeHe 1 bk1 v1 v2 _ q4 e4) lkX3_102 bk1.1 rfl rfl rfl ⟨Nat.le_of_ble_eq_true rfl, Nat.le_of_ble_eq_true rfl⟩ (Nat.le_of_ble_eq_true rfl) rfl dX3_he_67 ?_
          obtain rfl := Option.some.inj h
          exact Rt.ret (v := some (.int q4.1)) dX3_he_70 rfl rfl rfl
        · replace h := (if_neg c6).symm.trans h
          refine Rt.aload_n 0 dX3_he_54 rfl ?_
          refine Rt.bipush (-6) dX3_he_55 (by decide) ?_
          obtain ⟨q5, e5, h⟩ := bnd h
          refine Rt.cV (mfX3_refuse (-6 : Int32) _ q5 e5) lkX3_57 ly0 rfl rfl rfl ⟨Nat.le_of_ble_eq_true rfl, Nat.le_of_ble_eq_true rfl⟩ (Nat.le_of_ble_eq_true rfl) rfl dX3_he_57 ?_
          obtain rfl := Option.some.inj h
          exact Rt.ret (v := some (.int q5.1)) dX3_he_60 rfl rfl rfl
      · replace h := (if_neg c4).symm.trans h
        refine Rt.aload_n 0 dX3_he_38 rfl ?_
        refine Rt.bipush (-4) dX3_he_39 (by decide) ?_
        obtain ⟨q6, e6, h⟩ := bnd h
        refine Rt.cV (mfX3_refuse (-4 : Int32) _ q6 e6) lkX3_57 ly0 rfl rfl rfl ⟨Nat.le_of_ble_eq_true rfl, Nat.le_of_ble_eq_true rfl⟩ (Nat.le_of_ble_eq_true rfl) rfl dX3_he_41 ?_
        obtain rfl := Option.some.inj h
        exact Rt.ret (v := some (.int q6.1)) dX3_he_44 rfl rfl rfl
    · replace h := (if_neg c2).symm.trans h
      refine Rt.pick [0] rfl ?_
      exact wfX3_he_b22 X _ z h
set_option maxRecDepth 100000 in
set_option maxHeartbeats 4000000 in
theorem mfX3_he (v1 : Int32) (v2 : Int32) (σ : Sto) (z : Int32 × Sto) (h : fX3_he v1 v2 σ = some z) : AM yX3_he cX3_he 3 (some .int) 1 23 [.ref 0, .int v1, .int v2] σ (some (.int z.1)) z.2 := AM.int rfl (Nat.le_of_ble_eq_true rfl) (fun X => wfX3_he X v1 v2 σ z h)
-- fX3_stroke
def fX3_stroke (v1 : Int32) (σ : Sto) : Option (Int32 × Sto) := (fX3_isNoCell v1 σ).bind fun q1 => if q1.1 = 0 then (if (q1.2 1 4) < (999 : Int32) then ((fX0_strokeOn 1 v1 q1.2).bind fun q2 => some ((q2.2 1 2), q2.2)) else ((fX3_refuse (-6 : Int32) q1.2).bind fun q3 => some (q3.1, q3.2))) else ((fX3_refuse (-1 : Int32) q1.2).bind fun q4 => some (q4.1, q4.2))
set_option maxRecDepth 100000 in
set_option maxHeartbeats 4000000 in
theorem wfX3_stroke (X : Scr) (v1 : Int32) (σ : Sto) (z : Int32 × Sto) (h : fX3_stroke v1 σ = some z) : Rt X RX3 cX3_stroke 2 (rmA 3 65) .ireturn 0 [(0, .ref 0), (1, .int v1)] [] σ (some (.int z.1)) z.2 := by
  unfold fX3_stroke at h
  refine Rt.iload_n 1 dX3_stroke_0 rfl ?_
  obtain ⟨q1, e1, h⟩ := bnd h
  refine Rt.cS (mfX3_isNoCell v1 _ q1 e1) lkX3_85 rfl ⟨Nat.le_of_ble_eq_true rfl, Nat.le_of_ble_eq_true rfl⟩ (Nat.le_of_ble_eq_true rfl) rfl dX3_stroke_1 ?_
  refine Rt.if_eq 13 dX3_stroke_4 (by decide) (fun c1 => ?_) (fun c1 => ?_)
  · replace h := (if_pos c1).symm.trans h
    refine Rt.aload_n 0 dX3_stroke_13 rfl ?_
    refine gfX3_10 ly0 dX3_stroke_14 ?_
    refine gfX3_106 bk1.1 dX3_stroke_17 ?_
    refine Rt.sipush 999 dX3_stroke_20 (by decide) ?_
    refine Rt.icmp_lt 33 dX3_stroke_23 (by decide) (fun c2 => ?_) (fun c2 => ?_)
    · replace h := (if_pos c2).symm.trans h
      refine Rt.aload_n 0 dX3_stroke_33 rfl ?_
      refine gfX3_10 ly0 dX3_stroke_34 ?_
      refine Rt.iload_n 1 dX3_stroke_37 rfl ?_
      obtain ⟨q2, e2, h⟩ := bnd h
      refine Rt.cVN0 (mfX0_strokeOn 1 bk1 v1 _ q2 e2) lkX3_109 bk1.1 rfl rfl rfl ⟨Nat.le_of_ble_eq_true rfl, Nat.le_of_ble_eq_true rfl⟩ (Nat.le_of_ble_eq_true rfl) rfl dX3_stroke_38 ?_
      refine Rt.aload_n 0 dX3_stroke_41 rfl ?_
      refine gfX3_10 ly0 dX3_stroke_42 ?_
      refine gfX3_82 bk1.1 dX3_stroke_45 ?_
      obtain rfl := Option.some.inj h
      exact Rt.ret (v := some (.int (q2.2 1 2))) dX3_stroke_48 rfl rfl rfl
    · replace h := (if_neg c2).symm.trans h
      refine Rt.aload_n 0 dX3_stroke_26 rfl ?_
      refine Rt.bipush (-6) dX3_stroke_27 (by decide) ?_
      obtain ⟨q3, e3, h⟩ := bnd h
      refine Rt.cV (mfX3_refuse (-6 : Int32) _ q3 e3) lkX3_57 ly0 rfl rfl rfl ⟨Nat.le_of_ble_eq_true rfl, Nat.le_of_ble_eq_true rfl⟩ (Nat.le_of_ble_eq_true rfl) rfl dX3_stroke_29 ?_
      obtain rfl := Option.some.inj h
      exact Rt.ret (v := some (.int q3.1)) dX3_stroke_32 rfl rfl rfl
  · replace h := (if_neg c1).symm.trans h
    refine Rt.aload_n 0 dX3_stroke_7 rfl ?_
    refine Rt.iconst (-1) dX3_stroke_8 (by decide) ?_
    obtain ⟨q4, e4, h⟩ := bnd h
    refine Rt.cV (mfX3_refuse (-1 : Int32) _ q4 e4) lkX3_57 ly0 rfl rfl rfl ⟨Nat.le_of_ble_eq_true rfl, Nat.le_of_ble_eq_true rfl⟩ (Nat.le_of_ble_eq_true rfl) rfl dX3_stroke_9 ?_
    obtain rfl := Option.some.inj h
    exact Rt.ret (v := some (.int q4.1)) dX3_stroke_12 rfl rfl rfl
set_option maxRecDepth 100000 in
set_option maxHeartbeats 4000000 in
theorem mfX3_stroke (v1 : Int32) (σ : Sto) (z : Int32 × Sto) (h : fX3_stroke v1 σ = some z) : AM yX3_stroke cX3_stroke 2 (some .int) 3 65 [.ref 0, .int v1] σ (some (.int z.1)) z.2 := AM.int rfl (Nat.le_of_ble_eq_true rfl) (fun X => wfX3_stroke X v1 σ z h)
-- fX3_farApart
def fX3_farApart (v0 : Int32) (v1 : Int32) (σ : Sto) : Option (Int32 × Sto) := some (((abI ((v0 / (6 : Int32)) - (v1 / (6 : Int32)))) + (abI ((irm v0 (6 : Int32)) - (irm v1 (6 : Int32))))), σ)
set_option maxRecDepth 100000 in
set_option maxHeartbeats 4000000 in
theorem wfX3_farApart (X : Scr) (v0 : Int32) (v1 : Int32) (σ : Sto) (z : Int32 × Sto) (h : fX3_farApart v0 v1 σ = some z) : Rt X RX3 cX3_farApart 2 (rmA 1 21) .ireturn 0 [(0, .int v0), (1, .int v1)] [] σ (some (.int z.1)) z.2 := by
  unfold fX3_farApart at h
  refine Rt.iload_n 0 dX3_farApart_0 rfl ?_
  refine Rt.bipush 6 dX3_farApart_1 (by decide) ?_
  refine Rt.idiv dX3_farApart_3 (by decide) ?_
  refine Rt.iload_n 1 dX3_farApart_4 rfl ?_
  refine Rt.bipush 6 dX3_farApart_5 (by decide) ?_
  refine Rt.idiv dX3_farApart_7 (by decide) ?_
  refine Rt.isub dX3_farApart_8 ?_
  refine Rt.mabs mlX3_211 smMabs iniMath cdMabs (Nat.le_of_ble_eq_true rfl) (Nat.le_of_ble_eq_true rfl) dX3_farApart_9 ?_
  refine Rt.iload_n 0 dX3_farApart_12 rfl ?_
  refine Rt.bipush 6 dX3_farApart_13 (by decide) ?_
  refine Rt.rem dX3_farApart_15 (by decide) ?_
  refine Rt.iload_n 1 dX3_farApart_16 rfl ?_
  refine Rt.bipush 6 dX3_farApart_17 (by decide) ?_
  refine Rt.rem dX3_farApart_19 (by decide) ?_
  refine Rt.isub dX3_farApart_20 ?_
  refine Rt.mabs mlX3_211 smMabs iniMath cdMabs (Nat.le_of_ble_eq_true rfl) (Nat.le_of_ble_eq_true rfl) dX3_farApart_21 ?_
  refine Rt.iadd dX3_farApart_24 ?_
  obtain rfl := Option.some.inj h
  exact Rt.ret (v := some (.int ((abI ((v0 / (6 : Int32)) - (v1 / (6 : Int32)))) + (abI ((irm v0 (6 : Int32)) - (irm v1 (6 : Int32))))))) dX3_farApart_25 rfl rfl rfl
set_option maxRecDepth 100000 in
set_option maxHeartbeats 4000000 in
theorem mfX3_farApart (v0 : Int32) (v1 : Int32) (σ : Sto) (z : Int32 × Sto) (h : fX3_farApart v0 v1 σ = some z) : AM yX3_farApart cX3_farApart 2 (some .int) 1 21 [.int v0, .int v1] σ (some (.int z.1)) z.2 := AM.int rfl (Nat.le_of_ble_eq_true rfl) (fun X => wfX3_farApart X v0 v1 σ z h)
-- fX3_far
def fX3_far_b14 (σ : Sto) : Option (Int32 × Sto) := (fX3_refuse (-1 : Int32) σ).bind fun q2 => some (q2.1, q2.2)
set_option maxRecDepth 100000 in
set_option maxHeartbeats 4000000 in
theorem wfX3_far_b14 (X : Scr) (σ : Sto) (z : Int32 × Sto) (h : fX3_far_b14 σ = some z) : Rt X RX3 cX3_far 3 (rmA 2 42) .ireturn 14 [(0, .ref 0)] [] σ (some (.int z.1)) z.2 := by
  unfold fX3_far_b14 at h
  refine Rt.aload_n 0 dX3_far_14 rfl ?_
  refine Rt.iconst (-1) dX3_far_15 (by decide) ?_
  obtain ⟨q2, e2, h⟩ := bnd h
  refine Rt.cV (mfX3_refuse (-1 : Int32) _ q2 e2) lkX3_57 ly0 rfl rfl rfl ⟨Nat.le_of_ble_eq_true rfl, Nat.le_of_ble_eq_true rfl⟩ (Nat.le_of_ble_eq_true rfl) rfl dX3_far_16 ?_
  obtain rfl := Option.some.inj h
  exact Rt.ret (v := some (.int q2.1)) dX3_far_19 rfl rfl rfl
def fX3_far (v1 : Int32) (v2 : Int32) (σ : Sto) : Option (Int32 × Sto) := (fX3_isNoCell v1 σ).bind fun q1 => if q1.1 = 0 then ((fX3_isNoCell v2 q1.2).bind fun q3 => if q3.1 = 0 then ((fX3_farApart v1 v2 q3.2).bind fun q4 => some (q4.1, q4.2)) else (fX3_far_b14 q3.2)) else (fX3_far_b14 q1.2)
set_option maxRecDepth 100000 in
set_option maxHeartbeats 4000000 in
theorem wfX3_far (X : Scr) (v1 : Int32) (v2 : Int32) (σ : Sto) (z : Int32 × Sto) (h : fX3_far v1 v2 σ = some z) : Rt X RX3 cX3_far 3 (rmA 2 42) .ireturn 0 [(0, .ref 0), (1, .int v1), (2, .int v2)] [] σ (some (.int z.1)) z.2 := by
  unfold fX3_far at h
  refine Rt.iload_n 1 dX3_far_0 rfl ?_
  obtain ⟨q1, e1, h⟩ := bnd h
  refine Rt.cS (mfX3_isNoCell v1 _ q1 e1) lkX3_85 rfl ⟨Nat.le_of_ble_eq_true rfl, Nat.le_of_ble_eq_true rfl⟩ (Nat.le_of_ble_eq_true rfl) rfl dX3_far_1 ?_
  refine Rt.if_ne 14 dX3_far_4 (by decide) (fun c1 => ?_) (fun c1 => ?_)
  · replace h := (if_neg c1).symm.trans h
    refine Rt.pick [0] rfl ?_
    exact wfX3_far_b14 X _ z h
  · replace h := (if_pos c1).symm.trans h
    refine Rt.iload_n 2 dX3_far_7 rfl ?_
    obtain ⟨q3, e3, h⟩ := bnd h
    refine Rt.cS (mfX3_isNoCell v2 _ q3 e3) lkX3_85 rfl ⟨Nat.le_of_ble_eq_true rfl, Nat.le_of_ble_eq_true rfl⟩ (Nat.le_of_ble_eq_true rfl) rfl dX3_far_8 ?_
    refine Rt.if_eq 20 dX3_far_11 (by decide) (fun c2 => ?_) (fun c2 => ?_)
    · replace h := (if_pos c2).symm.trans h
      refine Rt.iload_n 1 dX3_far_20 rfl ?_
      refine Rt.iload_n 2 dX3_far_21 rfl ?_
      obtain ⟨q4, e4, h⟩ := bnd h
      refine Rt.cS (mfX3_farApart v1 v2 _ q4 e4) lkX3_113 rfl ⟨Nat.le_of_ble_eq_true rfl, Nat.le_of_ble_eq_true rfl⟩ (Nat.le_of_ble_eq_true rfl) rfl dX3_far_22 ?_
      obtain rfl := Option.some.inj h
      exact Rt.ret (v := some (.int q4.1)) dX3_far_25 rfl rfl rfl
    · replace h := (if_neg c2).symm.trans h
      refine Rt.pick [0] rfl ?_
      exact wfX3_far_b14 X _ z h
set_option maxRecDepth 100000 in
set_option maxHeartbeats 4000000 in
theorem mfX3_far (v1 : Int32) (v2 : Int32) (σ : Sto) (z : Int32 × Sto) (h : fX3_far v1 v2 σ = some z) : AM yX3_far cX3_far 3 (some .int) 2 42 [.ref 0, .int v1, .int v2] σ (some (.int z.1)) z.2 := AM.int rfl (Nat.le_of_ble_eq_true rfl) (fun X => wfX3_far X v1 v2 σ z h)
-- fX3_wordSaid
def fX3_wordSaid_b106 (v3 : Int32) (v5 : Int32) (s0 : Int32) (σ : Sto) : Option (Int32 × Sto) := if (abI v5) < v3 then (some ((s0 + (0 : Int32)), σ)) else (some ((s0 + (4 : Int32)), σ))
set_option maxRecDepth 100000 in
set_option maxHeartbeats 4000000 in
theorem wfX3_wordSaid_b106 (X : Scr) (v3 : Int32) (v5 : Int32) (s0 : Int32) (σ : Sto) (z : Int32 × Sto) (h : fX3_wordSaid_b106 v3 v5 s0 σ = some z) : Rt X RX3 cX3_wordSaid 7 (rmA 1 21) .ireturn 106 [(3, .int v3), (5, .int v5)] [.int s0] σ (some (.int z.1)) z.2 := by
  unfold fX3_wordSaid_b106 at h
  refine Rt.iload 1 dX3_wordSaid_106 rfl ?_
  refine Rt.mabs mlX3_211 smMabs iniMath cdMabs (Nat.le_of_ble_eq_true rfl) (Nat.le_of_ble_eq_true rfl) dX3_wordSaid_108 ?_
  refine Rt.iload_n 0 dX3_wordSaid_111 rfl ?_
  refine Rt.icmp_lt 119 dX3_wordSaid_112 (by decide) (fun c8 => ?_) (fun c8 => ?_)
  · replace h := (if_pos c8).symm.trans h
    refine Rt.iconst 0 dX3_wordSaid_119 (by decide) ?_
    refine Rt.iadd dX3_wordSaid_120 ?_
    obtain rfl := Option.some.inj h
    exact Rt.ret (v := some (.int (s0 + (0 : Int32)))) dX3_wordSaid_121 rfl rfl rfl
  · replace h := (if_neg c8).symm.trans h
    refine Rt.iconst 4 dX3_wordSaid_115 (by decide) ?_
    refine Rt.goto 120 dX3_wordSaid_116 (by decide) ?_
    refine Rt.iadd dX3_wordSaid_120 ?_
    obtain rfl := Option.some.inj h
    exact Rt.ret (v := some (.int (s0 + (4 : Int32)))) dX3_wordSaid_121 rfl rfl rfl
def fX3_wordSaid_b94 (v3 : Int32) (v5 : Int32) (s0 : Int32) (σ : Sto) : Option (Int32 × Sto) := if s0 = 0 then (fX3_wordSaid_b106 v3 v5 (3 : Int32) σ) else (fX3_wordSaid_b106 v3 v5 (2 : Int32) σ)
set_option maxRecDepth 100000 in
set_option maxHeartbeats 4000000 in
theorem wfX3_wordSaid_b94 (X : Scr) (v3 : Int32) (v5 : Int32) (s0 : Int32) (σ : Sto) (z : Int32 × Sto) (h : fX3_wordSaid_b94 v3 v5 s0 σ = some z) : Rt X RX3 cX3_wordSaid 7 (rmA 1 21) .ireturn 94 [(3, .int v3), (5, .int v5)] [.int s0] σ (some (.int z.1)) z.2 := by
  unfold fX3_wordSaid_b94 at h
  refine Rt.istore [(6, _), (3, _), (5, _)] dX3_wordSaid_94 (by decide) rfl ?_
  refine Rt.iload 0 dX3_wordSaid_96 rfl ?_
  refine Rt.if_eq 105 dX3_wordSaid_98 (by decide) (fun c7 => ?_) (fun c7 => ?_)
  · replace h := (if_pos c7).symm.trans h
    refine Rt.iconst 3 dX3_wordSaid_105 (by decide) ?_
    refine Rt.pick [1, 2] rfl ?_
    exact wfX3_wordSaid_b106 X v3 v5 (3 : Int32) _ z h
  · replace h := (if_neg c7).symm.trans h
    refine Rt.iconst 2 dX3_wordSaid_101 (by decide) ?_
    refine Rt.goto 106 dX3_wordSaid_102 (by decide) ?_
    refine Rt.pick [1, 2] rfl ?_
    exact wfX3_wordSaid_b106 X v3 v5 (2 : Int32) _ z h
def fX3_wordSaid_b86 (v3 : Int32) (v5 : Int32) (s0 : Int32) (s1 : Int32) (σ : Sto) : Option (Int32 × Sto) := if s1 = s0 then (fX3_wordSaid_b94 v3 v5 (1 : Int32) σ) else (fX3_wordSaid_b94 v3 v5 (0 : Int32) σ)
set_option maxRecDepth 100000 in
set_option maxHeartbeats 4000000 in
theorem wfX3_wordSaid_b86 (X : Scr) (v3 : Int32) (v5 : Int32) (s0 : Int32) (s1 : Int32) (σ : Sto) (z : Int32 × Sto) (h : fX3_wordSaid_b86 v3 v5 s0 s1 σ = some z) : Rt X RX3 cX3_wordSaid 7 (rmA 1 21) .ireturn 86 [(3, .int v3), (5, .int v5)] [.int s0, .int s1] σ (some (.int z.1)) z.2 := by
  unfold fX3_wordSaid_b86 at h
  refine Rt.icmp_ne 93 dX3_wordSaid_86 (by decide) (fun c6 => ?_) (fun c6 => ?_)
  · replace h := (if_neg c6).symm.trans h
    refine Rt.iconst 0 dX3_wordSaid_93 (by decide) ?_
    exact wfX3_wordSaid_b94 X v3 v5 (0 : Int32) _ z h
  · replace h := (if_pos c6).symm.trans h
    refine Rt.iconst 1 dX3_wordSaid_89 (by decide) ?_
    refine Rt.goto 94 dX3_wordSaid_90 (by decide) ?_
    exact wfX3_wordSaid_b94 X v3 v5 (1 : Int32) _ z h
def fX3_wordSaid_b77 (v2 : Int32) (v3 : Int32) (v5 : Int32) (s0 : Int32) (σ : Sto) : Option (Int32 × Sto) := if v2 = 0 then (fX3_wordSaid_b86 v3 v5 (1 : Int32) s0 σ) else (fX3_wordSaid_b86 v3 v5 (0 : Int32) s0 σ)
set_option maxRecDepth 100000 in
set_option maxHeartbeats 4000000 in
theorem wfX3_wordSaid_b77 (X : Scr) (v2 : Int32) (v3 : Int32) (v5 : Int32) (s0 : Int32) (σ : Sto) (z : Int32 × Sto) (h : fX3_wordSaid_b77 v2 v3 v5 s0 σ = some z) : Rt X RX3 cX3_wordSaid 7 (rmA 1 21) .ireturn 77 [(2, .int v2), (3, .int v3), (5, .int v5)] [.int s0] σ (some (.int z.1)) z.2 := by
  unfold fX3_wordSaid_b77 at h
  refine Rt.iload_n 0 dX3_wordSaid_77 rfl ?_
  refine Rt.if_ne 85 dX3_wordSaid_78 (by decide) (fun c5 => ?_) (fun c5 => ?_)
  · replace h := (if_neg c5).symm.trans h
    refine Rt.iconst 0 dX3_wordSaid_85 (by decide) ?_
    refine Rt.pick [1, 2] rfl ?_
    exact wfX3_wordSaid_b86 X v3 v5 (0 : Int32) s0 _ z h
  · replace h := (if_pos c5).symm.trans h
    refine Rt.iconst 1 dX3_wordSaid_81 (by decide) ?_
    refine Rt.goto 86 dX3_wordSaid_82 (by decide) ?_
    refine Rt.pick [1, 2] rfl ?_
    exact wfX3_wordSaid_b86 X v3 v5 (1 : Int32) s0 _ z h
def fX3_wordSaid_b35 (v3 : Int32) (v4 : Int32) (s0 : Int32) (σ : Sto) : Option (Int32 × Sto) := if (abI v4) < v3 then (some ((s0 + (0 : Int32)), σ)) else (some ((s0 + (4 : Int32)), σ))
set_option maxRecDepth 100000 in
set_option maxHeartbeats 4000000 in
theorem wfX3_wordSaid_b35 (X : Scr) (v3 : Int32) (v4 : Int32) (s0 : Int32) (σ : Sto) (z : Int32 × Sto) (h : fX3_wordSaid_b35 v3 v4 s0 σ = some z) : Rt X RX3 cX3_wordSaid 7 (rmA 1 21) .ireturn 35 [(3, .int v3), (4, .int v4)] [.int s0] σ (some (.int z.1)) z.2 := by
  unfold fX3_wordSaid_b35 at h
  refine Rt.iload 1 dX3_wordSaid_35 rfl ?_
  refine Rt.mabs mlX3_211 smMabs iniMath cdMabs (Nat.le_of_ble_eq_true rfl) (Nat.le_of_ble_eq_true rfl) dX3_wordSaid_37 ?_
  refine Rt.iload_n 0 dX3_wordSaid_40 rfl ?_
  refine Rt.icmp_lt 48 dX3_wordSaid_41 (by decide) (fun c10 => ?_) (fun c10 => ?_)
  · replace h := (if_pos c10).symm.trans h
    refine Rt.iconst 0 dX3_wordSaid_48 (by decide) ?_
    refine Rt.iadd dX3_wordSaid_49 ?_
    obtain rfl := Option.some.inj h
    exact Rt.ret (v := some (.int (s0 + (0 : Int32)))) dX3_wordSaid_50 rfl rfl rfl
  · replace h := (if_neg c10).symm.trans h
    refine Rt.iconst 4 dX3_wordSaid_44 (by decide) ?_
    refine Rt.goto 49 dX3_wordSaid_45 (by decide) ?_
    refine Rt.iadd dX3_wordSaid_49 ?_
    obtain rfl := Option.some.inj h
    exact Rt.ret (v := some (.int (s0 + (4 : Int32)))) dX3_wordSaid_50 rfl rfl rfl
def fX3_wordSaid (v0 : Int32) (v1 : Int32) (v2 : Int32) (v3 : Int32) (σ : Sto) : Option (Int32 × Sto) := if v1 = (24 : Int32) then (some ((9 : Int32), σ)) else (if ((v1 / (6 : Int32)) - (v0 / (6 : Int32))) = 0 then (if ((irm v1 (6 : Int32)) - (irm v0 (6 : Int32))) = 0 then (some ((8 : Int32), σ)) else (if 0 ≤ ((irm v1 (6 : Int32)) - (irm v0 (6 : Int32))) then (fX3_wordSaid_b77 v2 v3 ((irm v1 (6 : Int32)) - (irm v0 (6 : Int32))) (0 : Int32) σ) else (fX3_wordSaid_b77 v2 v3 ((irm v1 (6 : Int32)) - (irm v0 (6 : Int32))) (1 : Int32) σ))) else (if 0 ≤ ((v1 / (6 : Int32)) - (v0 / (6 : Int32))) then (fX3_wordSaid_b35 v3 ((v1 / (6 : Int32)) - (v0 / (6 : Int32))) (1 : Int32) σ) else (fX3_wordSaid_b35 v3 ((v1 / (6 : Int32)) - (v0 / (6 : Int32))) (0 : Int32) σ)))
set_option maxRecDepth 100000 in
set_option maxHeartbeats 4000000 in
theorem wfX3_wordSaid (X : Scr) (v0 : Int32) (v1 : Int32) (v2 : Int32) (v3 : Int32) (σ : Sto) (z : Int32 × Sto) (h : fX3_wordSaid v0 v1 v2 v3 σ = some z) : Rt X RX3 cX3_wordSaid 7 (rmA 1 21) .ireturn 0 [(0, .int v0), (1, .int v1), (2, .int v2), (3, .int v3)] [] σ (some (.int z.1)) z.2 := by
  unfold fX3_wordSaid at h
  refine Rt.iload_n 1 dX3_wordSaid_0 rfl ?_
  refine Rt.bipush 24 dX3_wordSaid_1 (by decide) ?_
  refine Rt.icmp_ne 9 dX3_wordSaid_3 (by decide) (fun c1 => ?_) (fun c1 => ?_)
  · replace h := (if_neg c1).symm.trans h
    refine Rt.iload_n 1 dX3_wordSaid_9 rfl ?_
    refine Rt.bipush 6 dX3_wordSaid_10 (by decide) ?_
    refine Rt.idiv dX3_wordSaid_12 (by decide) ?_
    refine Rt.iload_n 0 dX3_wordSaid_13 rfl ?_
    refine Rt.bipush 6 dX3_wordSaid_14 (by decide) ?_
    refine Rt.idiv dX3_wordSaid_16 (by decide) ?_
    refine Rt.isub dX3_wordSaid_17 ?_
    refine Rt.istore [(4, _), (0, _), (1, _), (2, _), (3, _)] dX3_wordSaid_18 (by decide) rfl ?_
    refine Rt.iload 0 dX3_wordSaid_20 rfl ?_
    refine Rt.if_eq 51 dX3_wordSaid_22 (by decide) (fun c2 => ?_) (fun c2 => ?_)
    · replace h := (if_pos c2).symm.trans h
      refine Rt.iload_n 2 dX3_wordSaid_51 rfl ?_
      refine Rt.bipush 6 dX3_wordSaid_52 (by decide) ?_
      refine Rt.rem dX3_wordSaid_54 (by decide) ?_
      refine Rt.iload_n 1 dX3_wordSaid_55 rfl ?_
      refine Rt.bipush 6 dX3_wordSaid_56 (by decide) ?_
      refine Rt.rem dX3_wordSaid_58 (by decide) ?_
      refine Rt.isub dX3_wordSaid_59 ?_
      refine Rt.istore [(5, _), (4, _), (0, _), (1, _), (2, _), (3, _)] dX3_wordSaid_60 (by decide) rfl ?_
      refine Rt.iload 0 dX3_wordSaid_62 rfl ?_
      refine Rt.if_eq 122 dX3_wordSaid_64 (by decide) (fun c3 => ?_) (fun c3 => ?_)
      · replace h := (if_pos c3).symm.trans h
        refine Rt.bipush 8 dX3_wordSaid_122 (by decide) ?_
        obtain rfl := Option.some.inj h
        exact Rt.ret (v := some (.int (8 : Int32))) dX3_wordSaid_124 rfl rfl rfl
      · replace h := (if_neg c3).symm.trans h
        refine Rt.iload 0 dX3_wordSaid_67 rfl ?_
        refine Rt.if_ge 76 dX3_wordSaid_69 (by decide) (fun c4 => ?_) (fun c4 => ?_)
        · replace h := (if_pos c4).symm.trans h
          refine Rt.iconst 0 dX3_wordSaid_76 (by decide) ?_
          refine Rt.pick [4, 5, 0] rfl ?_
          exact wfX3_wordSaid_b77 X v2 v3 ((irm v1 (6 : Int32)) - (irm v0 (6 : Int32))) (0 : Int32) _ z h
        · replace h := (if_neg c4).symm.trans h
          refine Rt.iconst 1 dX3_wordSaid_72 (by decide) ?_
          refine Rt.goto 77 dX3_wordSaid_73 (by decide) ?_
          refine Rt.pick [4, 5, 0] rfl ?_
          exact wfX3_wordSaid_b77 X v2 v3 ((irm v1 (6 : Int32)) - (irm v0 (6 : Int32))) (1 : Int32) _ z h
    · replace h := (if_neg c2).symm.trans h
      refine Rt.iload 0 dX3_wordSaid_25 rfl ?_
      refine Rt.if_ge 34 dX3_wordSaid_27 (by decide) (fun c9 => ?_) (fun c9 => ?_)
      · replace h := (if_pos c9).symm.trans h
        refine Rt.iconst 1 dX3_wordSaid_34 (by decide) ?_
        refine Rt.pick [4, 0] rfl ?_
        exact wfX3_wordSaid_b35 X v3 ((v1 / (6 : Int32)) - (v0 / (6 : Int32))) (1 : Int32) _ z h
      · replace h := (if_neg c9).symm.trans h
        refine Rt.iconst 0 dX3_wordSaid_30 (by decide) ?_
        refine Rt.goto 35 dX3_wordSaid_31 (by decide) ?_
        refine Rt.pick [4, 0] rfl ?_
        exact wfX3_wordSaid_b35 X v3 ((v1 / (6 : Int32)) - (v0 / (6 : Int32))) (0 : Int32) _ z h
  · replace h := (if_pos c1).symm.trans h
    refine Rt.bipush 9 dX3_wordSaid_6 (by decide) ?_
    obtain rfl := Option.some.inj h
    exact Rt.ret (v := some (.int (9 : Int32))) dX3_wordSaid_8 rfl rfl rfl
set_option maxRecDepth 100000 in
set_option maxHeartbeats 4000000 in
theorem mfX3_wordSaid (v0 : Int32) (v1 : Int32) (v2 : Int32) (v3 : Int32) (σ : Sto) (z : Int32 × Sto) (h : fX3_wordSaid v0 v1 v2 v3 σ = some z) : AM yX3_wordSaid cX3_wordSaid 7 (some .int) 1 21 [.int v0, .int v1, .int v2, .int v3] σ (some (.int z.1)) z.2 := AM.int rfl (Nat.le_of_ble_eq_true rfl) (fun X => wfX3_wordSaid X v0 v1 v2 v3 σ z h)
-- fX0_wordNow
def fX0_wordNow (k : Nat) (σ : Sto) : Option (Int32 × Sto) := (fX3_wordSaid (σ k 3) (σ k 2) (σ k 5) (σ k 7) σ).bind fun q1 => some (q1.1, q1.2)
set_option maxRecDepth 100000 in
set_option maxHeartbeats 4000000 in
theorem wfX0_wordNow (X : Scr) (k : Nat) (hk : bk k) (σ : Sto) (z : Int32 × Sto) (h : fX0_wordNow k σ = some z) : Rt X RX0 cX0_wordNow 1 (rmA 2 47) .ireturn 0 [(0, .ref k)] [] σ (some (.int z.1)) z.2 := by
  unfold fX0_wordNow at h
  refine Rt.aload_n 0 dX0_wordNow_0 rfl ?_
  refine gfX0_22 hk.1 dX0_wordNow_1 ?_
  refine Rt.aload_n 0 dX0_wordNow_4 rfl ?_
  refine gfX0_19 hk.1 dX0_wordNow_5 ?_
  refine Rt.aload_n 0 dX0_wordNow_8 rfl ?_
  refine gfX0_28 hk.1 dX0_wordNow_9 ?_
  refine Rt.aload_n 0 dX0_wordNow_12 rfl ?_
  refine gfX0_34 hk.1 dX0_wordNow_13 ?_
  obtain ⟨q1, e1, h⟩ := bnd h
  refine Rt.cSN (mfX3_wordSaid (σ k 3) (σ k 2) (σ k 5) (σ k 7) _ q1 e1) lkX0_78 rfl ⟨Nat.le_of_ble_eq_true rfl, Nat.le_of_ble_eq_true rfl⟩ (Nat.le_of_ble_eq_true rfl) rfl dX0_wordNow_16 ?_
  obtain rfl := Option.some.inj h
  exact Rt.ret (v := some (.int q1.1)) dX0_wordNow_19 rfl rfl rfl
set_option maxRecDepth 100000 in
set_option maxHeartbeats 4000000 in
theorem mfX0_wordNow (k : Nat) (hk : bk k) (σ : Sto) (z : Int32 × Sto) (h : fX0_wordNow k σ = some z) : AM yX0_wordNow cX0_wordNow 1 (some .int) 2 47 [.ref k] σ (some (.int z.1)) z.2 := AM.int rfl (Nat.le_of_ble_eq_true rfl) (fun X => wfX0_wordNow X k hk σ z h)
-- fX3_say
def fX3_say (σ : Sto) : Option (Int32 × Sto) := (fX0_wordNow 1 σ).bind fun q1 => some (q1.1, q1.2)
set_option maxRecDepth 100000 in
set_option maxHeartbeats 4000000 in
theorem wfX3_say (X : Scr) (σ : Sto) (z : Int32 × Sto) (h : fX3_say σ = some z) : Rt X RX3 cX3_say 1 (rmA 3 67) .ireturn 0 [(0, .ref 0)] [] σ (some (.int z.1)) z.2 := by
  unfold fX3_say at h
  refine Rt.aload_n 0 dX3_say_0 rfl ?_
  refine gfX3_10 ly0 dX3_say_1 ?_
  obtain ⟨q1, e1, h⟩ := bnd h
  refine Rt.cVN (mfX0_wordNow 1 bk1 _ q1 e1) lkX3_116 bk1.1 rfl rfl rfl ⟨Nat.le_of_ble_eq_true rfl, Nat.le_of_ble_eq_true rfl⟩ (Nat.le_of_ble_eq_true rfl) rfl dX3_say_4 ?_
  obtain rfl := Option.some.inj h
  exact Rt.ret (v := some (.int q1.1)) dX3_say_7 rfl rfl rfl
set_option maxRecDepth 100000 in
set_option maxHeartbeats 4000000 in
theorem mfX3_say (σ : Sto) (z : Int32 × Sto) (h : fX3_say σ = some z) : AM yX3_say cX3_say 1 (some .int) 3 67 [.ref 0] σ (some (.int z.1)) z.2 := AM.int rfl (Nat.le_of_ble_eq_true rfl) (fun X => wfX3_say X σ z h)
-- fX3_word
def fX3_word_b14 (σ : Sto) : Option (Int32 × Sto) := (fX3_refuse (-1 : Int32) σ).bind fun q2 => some (q2.1, q2.2)
set_option maxRecDepth 100000 in
set_option maxHeartbeats 4000000 in
theorem wfX3_word_b14 (X : Scr) (σ : Sto) (z : Int32 × Sto) (h : fX3_word_b14 σ = some z) : Rt X RX3 cX3_word 3 (rmA 2 47) .ireturn 14 [(0, .ref 0)] [] σ (some (.int z.1)) z.2 := by
  unfold fX3_word_b14 at h
  refine Rt.aload_n 0 dX3_word_14 rfl ?_
  refine Rt.iconst (-1) dX3_word_15 (by decide) ?_
  obtain ⟨q2, e2, h⟩ := bnd h
  refine Rt.cV (mfX3_refuse (-1 : Int32) _ q2 e2) lkX3_57 ly0 rfl rfl rfl ⟨Nat.le_of_ble_eq_true rfl, Nat.le_of_ble_eq_true rfl⟩ (Nat.le_of_ble_eq_true rfl) rfl dX3_word_16 ?_
  obtain rfl := Option.some.inj h
  exact Rt.ret (v := some (.int q2.1)) dX3_word_19 rfl rfl rfl
def fX3_word (v1 : Int32) (v2 : Int32) (σ : Sto) : Option (Int32 × Sto) := (fX3_isNoCell v1 σ).bind fun q1 => if q1.1 = 0 then ((fX3_isNoCell v2 q1.2).bind fun q3 => if q3.1 = 0 then ((fX3_wordSaid v1 v2 (q3.2 1 5) (q3.2 1 7) q3.2).bind fun q4 => some (q4.1, q4.2)) else (fX3_word_b14 q3.2)) else (fX3_word_b14 q1.2)
set_option maxRecDepth 100000 in
set_option maxHeartbeats 4000000 in
theorem wfX3_word (X : Scr) (v1 : Int32) (v2 : Int32) (σ : Sto) (z : Int32 × Sto) (h : fX3_word v1 v2 σ = some z) : Rt X RX3 cX3_word 3 (rmA 2 47) .ireturn 0 [(0, .ref 0), (1, .int v1), (2, .int v2)] [] σ (some (.int z.1)) z.2 := by
  unfold fX3_word at h
  refine Rt.iload_n 1 dX3_word_0 rfl ?_
  obtain ⟨q1, e1, h⟩ := bnd h
  refine Rt.cS (mfX3_isNoCell v1 _ q1 e1) lkX3_85 rfl ⟨Nat.le_of_ble_eq_true rfl, Nat.le_of_ble_eq_true rfl⟩ (Nat.le_of_ble_eq_true rfl) rfl dX3_word_1 ?_
  refine Rt.if_ne 14 dX3_word_4 (by decide) (fun c1 => ?_) (fun c1 => ?_)
  · replace h := (if_neg c1).symm.trans h
    refine Rt.pick [0] rfl ?_
    exact wfX3_word_b14 X _ z h
  · replace h := (if_pos c1).symm.trans h
    refine Rt.iload_n 2 dX3_word_7 rfl ?_
    obtain ⟨q3, e3, h⟩ := bnd h
    refine Rt.cS (mfX3_isNoCell v2 _ q3 e3) lkX3_85 rfl ⟨Nat.le_of_ble_eq_true rfl, Nat.le_of_ble_eq_true rfl⟩ (Nat.le_of_ble_eq_true rfl) rfl dX3_word_8 ?_
    refine Rt.if_eq 20 dX3_word_11 (by decide) (fun c2 => ?_) (fun c2 => ?_)
    · replace h := (if_pos c2).symm.trans h
      refine Rt.iload_n 1 dX3_word_20 rfl ?_
      refine Rt.iload_n 2 dX3_word_21 rfl ?_
      refine Rt.aload_n 0 dX3_word_22 rfl ?_
      refine gfX3_10 ly0 dX3_word_23 ?_
      refine gfX3_120 bk1.1 dX3_word_26 ?_
      refine Rt.aload_n 0 dX3_word_29 rfl ?_
      refine gfX3_10 ly0 dX3_word_30 ?_
      refine gfX3_123 bk1.1 dX3_word_33 ?_
      obtain ⟨q4, e4, h⟩ := bnd h
      refine Rt.cS (mfX3_wordSaid v1 v2 (q3.2 1 5) (q3.2 1 7) _ q4 e4) lkX3_126 rfl ⟨Nat.le_of_ble_eq_true rfl, Nat.le_of_ble_eq_true rfl⟩ (Nat.le_of_ble_eq_true rfl) rfl dX3_word_36 ?_
      obtain rfl := Option.some.inj h
      exact Rt.ret (v := some (.int q4.1)) dX3_word_39 rfl rfl rfl
    · replace h := (if_neg c2).symm.trans h
      refine Rt.pick [0] rfl ?_
      exact wfX3_word_b14 X _ z h
set_option maxRecDepth 100000 in
set_option maxHeartbeats 4000000 in
theorem mfX3_word (v1 : Int32) (v2 : Int32) (σ : Sto) (z : Int32 × Sto) (h : fX3_word v1 v2 σ = some z) : AM yX3_word cX3_word 3 (some .int) 2 47 [.ref 0, .int v1, .int v2] σ (some (.int z.1)) z.2 := AM.int rfl (Nat.le_of_ble_eq_true rfl) (fun X => wfX3_word X v1 v2 σ z h)
-- fX3_behind
def fX3_behind_l50 : Nat → Int32 → Int32 → Int32 → Sto → Option (Int32 × Sto)
  | 0, _, _, _, _ => none
  | n + 1, v1, v2, v3, σ => if v2 ≤ v3 then (some ((σ 5 2), σ)) else ((fX0_strokeOn 5 v1 σ).bind fun q3 => fX3_behind_l50 n v1 v2 (v3 + (1 : Int32)) q3.2)
set_option maxRecDepth 100000 in
set_option maxHeartbeats 4000000 in
theorem wfX3_behind_l50 (X : Scr) : ∀ (n : Nat) (v1 : Int32) (v2 : Int32) (v3 : Int32) (σ : Sto) (z : Int32 × Sto), fX3_behind_l50 n v1 v2 v3 σ = some z → Rt X RX3 cX3_behind 4 (rmA 3 81) .ireturn 50 [(0, .ref 0), (1, .int v1), (2, .int v2), (3, .int v3)] [] σ (some (.int z.1)) z.2 := by
  intro n
  induction n with
  | zero =>
    intro v1 v2 v3 σ z h
    rw [fX3_behind_l50] at h
    cases h
  | succ n ih =>
    intro v1 v2 v3 σ z h
    rw [fX3_behind_l50] at h
    refine Rt.iload_n 3 dX3_behind_50 rfl ?_
    refine Rt.iload_n 2 dX3_behind_51 rfl ?_
    refine Rt.icmp_ge 69 dX3_behind_52 (by decide) (fun c4 => ?_) (fun c4 => ?_)
    · replace h := (if_pos c4).symm.trans h
      refine Rt.aload_n 0 dX3_behind_69 rfl ?_
      refine gfX3_19 ly0 dX3_behind_70 ?_
      refine gfX3_82 bk5.1 dX3_behind_73 ?_
      obtain rfl := Option.some.inj h
      exact Rt.ret (v := some (.int (σ 5 2))) dX3_behind_76 rfl rfl rfl
    · replace h := (if_neg c4).symm.trans h
      refine Rt.aload_n 0 dX3_behind_55 rfl ?_
      refine gfX3_19 ly0 dX3_behind_56 ?_
      refine Rt.iload_n 1 dX3_behind_59 rfl ?_
      obtain ⟨q3, e3, h⟩ := bnd h
      refine Rt.cVN0 (mfX0_strokeOn 5 bk5 v1 _ q3 e3) lkX3_109 bk5.1 rfl rfl rfl ⟨Nat.le_of_ble_eq_true rfl, Nat.le_of_ble_eq_true rfl⟩ (Nat.le_of_ble_eq_true rfl) rfl dX3_behind_60 ?_
      refine Rt.iinc [(3, _), (0, _), (1, _), (2, _)] (v3 + (1 : Int32)) 3 dX3_behind_63 rfl rfl (by decide) rfl ?_
      refine Rt.goto 50 dX3_behind_66 (by decide) ?_
      refine Rt.pick [1, 2, 3, 0] rfl ?_
      exact ih v1 v2 (v3 + (1 : Int32)) _ z h
def fX3_behind (v1 : Int32) (v2 : Int32) (σ : Sto) : Option (Int32 × Sto) := (fX3_isNoCell v1 σ).bind fun q1 => if q1.1 = 0 then (if 0 ≤ v2 then (if v2 ≤ (20 : Int32) then ((fX0_take 5 1 q1.2).bind fun q2 => fX3_behind_l50 300 v1 v2 (0 : Int32) q2.2) else ((fX3_refuse (-6 : Int32) q1.2).bind fun q4 => some (q4.1, q4.2))) else ((fX3_refuse (-4 : Int32) q1.2).bind fun q5 => some (q5.1, q5.2))) else ((fX3_refuse (-1 : Int32) q1.2).bind fun q6 => some (q6.1, q6.2))
set_option maxRecDepth 100000 in
set_option maxHeartbeats 4000000 in
theorem wfX3_behind (X : Scr) (v1 : Int32) (v2 : Int32) (σ : Sto) (z : Int32 × Sto) (h : fX3_behind v1 v2 σ = some z) : Rt X RX3 cX3_behind 4 (rmA 3 81) .ireturn 0 [(0, .ref 0), (1, .int v1), (2, .int v2)] [] σ (some (.int z.1)) z.2 := by
  unfold fX3_behind at h
  refine Rt.iload_n 1 dX3_behind_0 rfl ?_
  obtain ⟨q1, e1, h⟩ := bnd h
  refine Rt.cS (mfX3_isNoCell v1 _ q1 e1) lkX3_85 rfl ⟨Nat.le_of_ble_eq_true rfl, Nat.le_of_ble_eq_true rfl⟩ (Nat.le_of_ble_eq_true rfl) rfl dX3_behind_1 ?_
  refine Rt.if_eq 13 dX3_behind_4 (by decide) (fun c1 => ?_) (fun c1 => ?_)
  · replace h := (if_pos c1).symm.trans h
    refine Rt.iload_n 2 dX3_behind_13 rfl ?_
    refine Rt.if_ge 24 dX3_behind_14 (by decide) (fun c2 => ?_) (fun c2 => ?_)
    · replace h := (if_pos c2).symm.trans h
      refine Rt.iload_n 2 dX3_behind_24 rfl ?_
      refine Rt.bipush 20 dX3_behind_25 (by decide) ?_
      refine Rt.icmp_le 37 dX3_behind_27 (by decide) (fun c3 => ?_) (fun c3 => ?_)
      · replace h := (if_pos c3).symm.trans h
        refine Rt.aload_n 0 dX3_behind_37 rfl ?_
        refine gfX3_19 ly0 dX3_behind_38 ?_
        refine Rt.aload_n 0 dX3_behind_41 rfl ?_
        refine gfX3_10 ly0 dX3_behind_42 ?_
        obtain ⟨q2, e2, h⟩ := bnd h
        refine Rt.cVN0 (mfX0_take 5 bk5 1 bk1 _ q2 e2) lkX3_67 bk5.1 rfl rfl rfl ⟨Nat.le_of_ble_eq_true rfl, Nat.le_of_ble_eq_true rfl⟩ (Nat.le_of_ble_eq_true rfl) rfl dX3_behind_45 ?_
        refine Rt.iconst 0 dX3_behind_48 (by decide) ?_
        refine Rt.istore_n [(3, _), (0, _), (1, _), (2, _)] dX3_behind_49 (by decide) rfl ?_
        refine Rt.pick [1, 2, 3, 0] rfl ?_
        exact wfX3_behind_l50 X 300 v1 v2 (0 : Int32) _ z h
      · replace h := (if_neg c3).symm.trans h
        refine Rt.aload_n 0 dX3_behind_30 rfl ?_
        refine Rt.bipush (-6) dX3_behind_31 (by decide) ?_
        obtain ⟨q4, e4, h⟩ := bnd h
        refine Rt.cV (mfX3_refuse (-6 : Int32) _ q4 e4) lkX3_57 ly0 rfl rfl rfl ⟨Nat.le_of_ble_eq_true rfl, Nat.le_of_ble_eq_true rfl⟩ (Nat.le_of_ble_eq_true rfl) rfl dX3_behind_33 ?_
        obtain rfl := Option.some.inj h
        exact Rt.ret (v := some (.int q4.1)) dX3_behind_36 rfl rfl rfl
    · replace h := (if_neg c2).symm.trans h
      refine Rt.aload_n 0 dX3_behind_17 rfl ?_
      refine Rt.bipush (-4) dX3_behind_18 (by decide) ?_
      obtain ⟨q5, e5, h⟩ := bnd h
      refine Rt.cV (mfX3_refuse (-4 : Int32) _ q5 e5) lkX3_57 ly0 rfl rfl rfl ⟨Nat.le_of_ble_eq_true rfl, Nat.le_of_ble_eq_true rfl⟩ (Nat.le_of_ble_eq_true rfl) rfl dX3_behind_20 ?_
      obtain rfl := Option.some.inj h
      exact Rt.ret (v := some (.int q5.1)) dX3_behind_23 rfl rfl rfl
  · replace h := (if_neg c1).symm.trans h
    refine Rt.aload_n 0 dX3_behind_7 rfl ?_
    refine Rt.iconst (-1) dX3_behind_8 (by decide) ?_
    obtain ⟨q6, e6, h⟩ := bnd h
    refine Rt.cV (mfX3_refuse (-1 : Int32) _ q6 e6) lkX3_57 ly0 rfl rfl rfl ⟨Nat.le_of_ble_eq_true rfl, Nat.le_of_ble_eq_true rfl⟩ (Nat.le_of_ble_eq_true rfl) rfl dX3_behind_9 ?_
    obtain rfl := Option.some.inj h
    exact Rt.ret (v := some (.int q6.1)) dX3_behind_12 rfl rfl rfl
set_option maxRecDepth 100000 in
set_option maxHeartbeats 4000000 in
theorem mfX3_behind (v1 : Int32) (v2 : Int32) (σ : Sto) (z : Int32 × Sto) (h : fX3_behind v1 v2 σ = some z) : AM yX3_behind cX3_behind 4 (some .int) 3 81 [.ref 0, .int v1, .int v2] σ (some (.int z.1)) z.2 := AM.int rfl (Nat.le_of_ble_eq_true rfl) (fun X => wfX3_behind X v1 v2 σ z h)
-- fX0_stepsOf
def fX0_stepsOf_b15 (k : Nat) (v1 : Int32) (v2 : Int32) (s0 : Int32) (σ : Sto) : Option (Int32 × Sto) := if v1 = 1 then (some ((1 : Int32), σ)) else (if v1 = 2 then (some (((2 : Int32) * s0), σ)) else (if v1 = 3 then (some (s0, σ)) else (if v1 = 4 then (if v2 = 0 then (some ((1 : Int32), σ)) else (some (s0, σ))) else (some (s0, σ)))))
set_option maxRecDepth 100000 in
set_option maxHeartbeats 4000000 in
theorem wfX0_stepsOf_b15 (X : Scr) (k : Nat) (hk : bk k) (v1 : Int32) (v2 : Int32) (s0 : Int32) (σ : Sto) (z : Int32 × Sto) (h : fX0_stepsOf_b15 k v1 v2 s0 σ = some z) : Rt X RX0 cX0_stepsOf 4 (rmA 0 0) .ireturn 15 [(1, .int v1), (2, .int v2)] [.int s0] σ (some (.int z.1)) z.2 := by
  unfold fX0_stepsOf_b15 at h
  refine Rt.istore_n [(3, _), (1, _), (2, _)] dX0_stepsOf_15 (by decide) rfl ?_
  refine Rt.iload_n 1 dX0_stepsOf_16 rfl ?_
  by_cases sw2_0 : v1 = 1
  · replace h := (if_pos sw2_0).symm.trans h
    refine Rt.tsIn 48 dX0_stepsOf_17 (by rw [sw2_0] <;> decide) (by rw [sw2_0] <;> decide) (by rw [sw2_0] <;> rfl) (by decide) ?_
    refine Rt.iconst 1 dX0_stepsOf_48 (by decide) ?_
    obtain rfl := Option.some.inj h
    exact Rt.ret (v := some (.int (1 : Int32))) dX0_stepsOf_49 rfl rfl rfl
  · replace h := (if_neg sw2_0).symm.trans h
    by_cases sw2_1 : v1 = 2
    · replace h := (if_pos sw2_1).symm.trans h
      refine Rt.tsIn 50 dX0_stepsOf_17 (by rw [sw2_1] <;> decide) (by rw [sw2_1] <;> decide) (by rw [sw2_1] <;> rfl) (by decide) ?_
      refine Rt.iconst 2 dX0_stepsOf_50 (by decide) ?_
      refine Rt.iload_n 0 dX0_stepsOf_51 rfl ?_
      refine Rt.imul dX0_stepsOf_52 ?_
      obtain rfl := Option.some.inj h
      exact Rt.ret (v := some (.int ((2 : Int32) * s0))) dX0_stepsOf_53 rfl rfl rfl
    · replace h := (if_neg sw2_1).symm.trans h
      by_cases sw2_2 : v1 = 3
      · replace h := (if_pos sw2_2).symm.trans h
        refine Rt.tsIn 64 dX0_stepsOf_17 (by rw [sw2_2] <;> decide) (by rw [sw2_2] <;> decide) (by rw [sw2_2] <;> rfl) (by decide) ?_
        refine Rt.iload_n 0 dX0_stepsOf_64 rfl ?_
        obtain rfl := Option.some.inj h
        exact Rt.ret (v := some (.int s0)) dX0_stepsOf_65 rfl rfl rfl
      · replace h := (if_neg sw2_2).symm.trans h
        by_cases sw2_3 : v1 = 4
        · replace h := (if_pos sw2_3).symm.trans h
          refine Rt.tsIn 54 dX0_stepsOf_17 (by rw [sw2_3] <;> decide) (by rw [sw2_3] <;> decide) (by rw [sw2_3] <;> rfl) (by decide) ?_
          refine Rt.iload_n 2 dX0_stepsOf_54 rfl ?_
          refine Rt.if_eq 62 dX0_stepsOf_55 (by decide) (fun c3 => ?_) (fun c3 => ?_)
          · replace h := (if_pos c3).symm.trans h
            refine Rt.iconst 1 dX0_stepsOf_62 (by decide) ?_
            obtain rfl := Option.some.inj h
            exact Rt.ret (v := some (.int (1 : Int32))) dX0_stepsOf_63 rfl rfl rfl
          · replace h := (if_neg c3).symm.trans h
            refine Rt.iload_n 0 dX0_stepsOf_58 rfl ?_
            refine Rt.goto 63 dX0_stepsOf_59 (by decide) ?_
            obtain rfl := Option.some.inj h
            exact Rt.ret (v := some (.int s0)) dX0_stepsOf_63 rfl rfl rfl
        · replace h := (if_neg sw2_3).symm.trans h
          have hsw : (v1).toInt < 1 ∨ 4 < (v1).toInt := by
            have w0 := nti 1 (k := 1) rfl sw2_0
            have w1 := nti 2 (k := 2) rfl sw2_1
            have w2 := nti 3 (k := 3) rfl sw2_2
            have w3 := nti 4 (k := 4) rfl sw2_3
            omega
          refine Rt.tsOut 64 dX0_stepsOf_17 hsw (by decide) ?_
          refine Rt.iload_n 0 dX0_stepsOf_64 rfl ?_
          obtain rfl := Option.some.inj h
          exact Rt.ret (v := some (.int s0)) dX0_stepsOf_65 rfl rfl rfl
def fX0_stepsOf (k : Nat) (v1 : Int32) (v2 : Int32) (σ : Sto) : Option (Int32 × Sto) := if v2 = 0 then (fX0_stepsOf_b15 k v1 v2 (σ k 6) σ) else (fX0_stepsOf_b15 k v1 v2 (σ k 7) σ)
set_option maxRecDepth 100000 in
set_option maxHeartbeats 4000000 in
theorem wfX0_stepsOf (X : Scr) (k : Nat) (hk : bk k) (v1 : Int32) (v2 : Int32) (σ : Sto) (z : Int32 × Sto) (h : fX0_stepsOf k v1 v2 σ = some z) : Rt X RX0 cX0_stepsOf 4 (rmA 0 0) .ireturn 0 [(0, .ref k), (1, .int v1), (2, .int v2)] [] σ (some (.int z.1)) z.2 := by
  unfold fX0_stepsOf at h
  refine Rt.iload_n 2 dX0_stepsOf_0 rfl ?_
  refine Rt.if_eq 11 dX0_stepsOf_1 (by decide) (fun c1 => ?_) (fun c1 => ?_)
  · replace h := (if_pos c1).symm.trans h
    refine Rt.aload_n 0 dX0_stepsOf_11 rfl ?_
    refine gfX0_31 hk.1 dX0_stepsOf_12 ?_
    refine Rt.pick [1, 2] rfl ?_
    exact wfX0_stepsOf_b15 X k hk v1 v2 (σ k 6) _ z h
  · replace h := (if_neg c1).symm.trans h
    refine Rt.aload_n 0 dX0_stepsOf_4 rfl ?_
    refine gfX0_34 hk.1 dX0_stepsOf_5 ?_
    refine Rt.goto 15 dX0_stepsOf_8 (by decide) ?_
    refine Rt.pick [1, 2] rfl ?_
    exact wfX0_stepsOf_b15 X k hk v1 v2 (σ k 7) _ z h
set_option maxRecDepth 100000 in
set_option maxHeartbeats 4000000 in
theorem mfX0_stepsOf (k : Nat) (hk : bk k) (v1 : Int32) (v2 : Int32) (σ : Sto) (z : Int32 × Sto) (h : fX0_stepsOf k v1 v2 σ = some z) : AM yX0_stepsOf cX0_stepsOf 4 (some .int) 0 0 [.ref k, .int v1, .int v2] σ (some (.int z.1)) z.2 := AM.int rfl (Nat.le_of_ble_eq_true rfl) (fun X => wfX0_stepsOf X k hk v1 v2 σ z h)
-- fX0_clamp
def fX0_clamp (v0 : Int32) (v1 : Int32) (σ : Sto) : Option (Int32 × Sto) := some ((mxI (0 : Int32) (mnI v1 v0)), σ)
set_option maxRecDepth 100000 in
set_option maxHeartbeats 4000000 in
theorem wfX0_clamp (X : Scr) (v0 : Int32) (v1 : Int32) (σ : Sto) (z : Int32 × Sto) (h : fX0_clamp v0 v1 σ = some z) : Rt X RX0 cX0_clamp 2 (rmA 1 21) .ireturn 0 [(0, .int v0), (1, .int v1)] [] σ (some (.int z.1)) z.2 := by
  unfold fX0_clamp at h
  refine Rt.iconst 0 dX0_clamp_0 (by decide) ?_
  refine Rt.iload_n 1 dX0_clamp_1 rfl ?_
  refine Rt.iload_n 0 dX0_clamp_2 rfl ?_
  refine Rt.mmin mlX0_54 smMmin iniMath cdMmin (Nat.le_of_ble_eq_true rfl) (Nat.le_of_ble_eq_true rfl) dX0_clamp_3 ?_
  refine Rt.mmax mlX0_92 smMmax iniMath cdMmax (Nat.le_of_ble_eq_true rfl) (Nat.le_of_ble_eq_true rfl) dX0_clamp_6 ?_
  obtain rfl := Option.some.inj h
  exact Rt.ret (v := some (.int (mxI (0 : Int32) (mnI v1 v0)))) dX0_clamp_9 rfl rfl rfl
set_option maxRecDepth 100000 in
set_option maxHeartbeats 4000000 in
theorem mfX0_clamp (v0 : Int32) (v1 : Int32) (σ : Sto) (z : Int32 × Sto) (h : fX0_clamp v0 v1 σ = some z) : AM yX0_clamp cX0_clamp 2 (some .int) 1 21 [.int v0, .int v1] σ (some (.int z.1)) z.2 := AM.int rfl (Nat.le_of_ble_eq_true rfl) (fun X => wfX0_clamp X v0 v1 σ z h)
-- fJ9_floorMod_7cf53
def fJ9_floorMod_7cf53 (v0 : Int32) (v1 : Int32) (σ : Sto) : Option (Int32 × Sto) := if ¬ v1 = 0 then (if 0 ≤ (v0 ^^^ v1) then (some ((irm v0 v1), σ)) else (if (irm v0 v1) = 0 then (some ((irm v0 v1), σ)) else (some (((irm v0 v1) + v1), σ)))) else none
set_option maxRecDepth 100000 in
set_option maxHeartbeats 4000000 in
theorem wfJ9_floorMod_7cf53 (X : Scr) (v0 : Int32) (v1 : Int32) (σ : Sto) (z : Int32 × Sto) (h : fJ9_floorMod_7cf53 v0 v1 σ = some z) : Rt X RJ9 cJ9_floorMod_7cf53 3 (rmA 0 0) .ireturn 0 [(0, .int v0), (1, .int v1)] [] σ (some (.int z.1)) z.2 := by
  unfold fJ9_floorMod_7cf53 at h
  refine Rt.iload_n 0 dJ9_floorMod_7cf53_0 rfl ?_
  refine Rt.iload_n 1 dJ9_floorMod_7cf53_1 rfl ?_
  obtain ⟨g1, h⟩ := gd h
  refine Rt.rem dJ9_floorMod_7cf53_2 g1 ?_
  refine Rt.istore_n [(2, _), (0, _), (1, _)] dJ9_floorMod_7cf53_3 (by decide) rfl ?_
  refine Rt.iload_n 1 dJ9_floorMod_7cf53_4 rfl ?_
  refine Rt.iload_n 2 dJ9_floorMod_7cf53_5 rfl ?_
  refine Rt.ixor dJ9_floorMod_7cf53_6 ?_
  refine Rt.if_ge 18 dJ9_floorMod_7cf53_7 (by decide) (fun c2 => ?_) (fun c2 => ?_)
  · replace h := (if_pos c2).symm.trans h
    refine Rt.iload_n 0 dJ9_floorMod_7cf53_18 rfl ?_
    obtain rfl := Option.some.inj h
    exact Rt.ret (v := some (.int (irm v0 v1))) dJ9_floorMod_7cf53_19 rfl rfl rfl
  · replace h := (if_neg c2).symm.trans h
    refine Rt.iload_n 0 dJ9_floorMod_7cf53_10 rfl ?_
    refine Rt.if_eq 18 dJ9_floorMod_7cf53_11 (by decide) (fun c3 => ?_) (fun c3 => ?_)
    · replace h := (if_pos c3).symm.trans h
      refine Rt.iload_n 0 dJ9_floorMod_7cf53_18 rfl ?_
      obtain rfl := Option.some.inj h
      exact Rt.ret (v := some (.int (irm v0 v1))) dJ9_floorMod_7cf53_19 rfl rfl rfl
    · replace h := (if_neg c3).symm.trans h
      refine Rt.iload_n 0 dJ9_floorMod_7cf53_14 rfl ?_
      refine Rt.iload_n 2 dJ9_floorMod_7cf53_15 rfl ?_
      refine Rt.iadd dJ9_floorMod_7cf53_16 ?_
      obtain rfl := Option.some.inj h
      exact Rt.ret (v := some (.int ((irm v0 v1) + v1))) dJ9_floorMod_7cf53_17 rfl rfl rfl
set_option maxRecDepth 100000 in
set_option maxHeartbeats 4000000 in
theorem mfJ9_floorMod_7cf53 (v0 : Int32) (v1 : Int32) (σ : Sto) (z : Int32 × Sto) (h : fJ9_floorMod_7cf53 v0 v1 σ = some z) : AM yJ9_floorMod_7cf53 cJ9_floorMod_7cf53 3 (some .int) 0 0 [.int v0, .int v1] σ (some (.int z.1)) z.2 := AM.intF (by decide +kernel) (Nat.le_of_ble_eq_true rfl) (fun X => wfJ9_floorMod_7cf53 X v0 v1 σ z h)
-- fX0_readBy
def fX0_readBy_b22 (k : Nat) (σ : Sto) : Option (Int32 × Sto) := some ((σ k 3), σ)
set_option maxRecDepth 100000 in
set_option maxHeartbeats 4000000 in
theorem wfX0_readBy_b22 (X : Scr) (k : Nat) (hk : bk k) (σ : Sto) (z : Int32 × Sto) (h : fX0_readBy_b22 k σ = some z) : Rt X RX0 cX0_readBy 8 (rmA 2 42) .ireturn 22 [(0, .ref k)] [] σ (some (.int z.1)) z.2 := by
  unfold fX0_readBy_b22 at h
  refine Rt.aload_n 0 dX0_readBy_22 rfl ?_
  refine gfX0_22 hk.1 dX0_readBy_23 ?_
  obtain rfl := Option.some.inj h
  exact Rt.ret (v := some (.int (σ k 3))) dX0_readBy_26 rfl rfl rfl
def fX0_readBy_b136 (k : Nat) (v6 : Int32) (v7 : Int32) (σ : Sto) : Option (Int32 × Sto) := (fX0_clamp v6 (3 : Int32) σ).bind fun q2 => (fX0_clamp v7 (5 : Int32) q2.2).bind fun q3 => some ((((6 : Int32) * q2.1) + q3.1), q3.2)
set_option maxRecDepth 100000 in
set_option maxHeartbeats 4000000 in
theorem wfX0_readBy_b136 (X : Scr) (k : Nat) (hk : bk k) (v6 : Int32) (v7 : Int32) (σ : Sto) (z : Int32 × Sto) (h : fX0_readBy_b136 k v6 v7 σ = some z) : Rt X RX0 cX0_readBy 8 (rmA 2 42) .ireturn 136 [(6, .int v6), (7, .int v7)] [] σ (some (.int z.1)) z.2 := by
  unfold fX0_readBy_b136 at h
  refine Rt.bipush 6 dX0_readBy_136 (by decide) ?_
  refine Rt.iload 0 dX0_readBy_138 rfl ?_
  refine Rt.iconst 3 dX0_readBy_140 (by decide) ?_
  obtain ⟨q2, e2, h⟩ := bnd h
  refine Rt.cS (mfX0_clamp v6 (3 : Int32) _ q2 e2) lkX0_89 rfl ⟨Nat.le_of_ble_eq_true rfl, Nat.le_of_ble_eq_true rfl⟩ (Nat.le_of_ble_eq_true rfl) rfl dX0_readBy_141 ?_
  refine Rt.imul dX0_readBy_144 ?_
  refine Rt.iload 1 dX0_readBy_145 rfl ?_
  refine Rt.iconst 5 dX0_readBy_147 (by decide) ?_
  obtain ⟨q3, e3, h⟩ := bnd h
  refine Rt.cS (mfX0_clamp v7 (5 : Int32) _ q3 e3) lkX0_89 rfl ⟨Nat.le_of_ble_eq_true rfl, Nat.le_of_ble_eq_true rfl⟩ (Nat.le_of_ble_eq_true rfl) rfl dX0_readBy_148 ?_
  refine Rt.iadd dX0_readBy_151 ?_
  obtain rfl := Option.some.inj h
  exact Rt.ret (v := some (.int (((6 : Int32) * q2.1) + q3.1))) dX0_readBy_152 rfl rfl rfl
def fX0_readBy_b93 (k : Nat) (v7 : Int32) (s0 : Int32) (s1 : Int32) (σ : Sto) : Option (Int32 × Sto) := fX0_readBy_b136 k (s1 + s0) v7 σ
set_option maxRecDepth 100000 in
set_option maxHeartbeats 4000000 in
theorem wfX0_readBy_b93 (X : Scr) (k : Nat) (hk : bk k) (v7 : Int32) (s0 : Int32) (s1 : Int32) (σ : Sto) (z : Int32 × Sto) (h : fX0_readBy_b93 k v7 s0 s1 σ = some z) : Rt X RX0 cX0_readBy 8 (rmA 2 42) .ireturn 93 [(7, .int v7)] [.int s0, .int s1] σ (some (.int z.1)) z.2 := by
  unfold fX0_readBy_b93 at h
  refine Rt.iadd dX0_readBy_93 ?_
  refine Rt.istore [(6, _), (7, _)] dX0_readBy_94 (by decide) rfl ?_
  refine Rt.goto 136 dX0_readBy_96 (by decide) ?_
  exact wfX0_readBy_b136 X k hk (s1 + s0) v7 _ z h
def fX0_readBy_b78 (k : Nat) (v4 : Int32) (v5 : Int32) (v6 : Int32) (v7 : Int32) (σ : Sto) : Option (Int32 × Sto) := if v5 = 0 then (fX0_readBy_b93 k v7 (-v4) v6 σ) else (fX0_readBy_b93 k v7 v4 v6 σ)
set_option maxRecDepth 100000 in
set_option maxHeartbeats 4000000 in
theorem wfX0_readBy_b78 (X : Scr) (k : Nat) (hk : bk k) (v4 : Int32) (v5 : Int32) (v6 : Int32) (v7 : Int32) (σ : Sto) (z : Int32 × Sto) (h : fX0_readBy_b78 k v4 v5 v6 v7 σ = some z) : Rt X RX0 cX0_readBy 8 (rmA 2 42) .ireturn 78 [(4, .int v4), (5, .int v5), (6, .int v6), (7, .int v7)] [] σ (some (.int z.1)) z.2 := by
  unfold fX0_readBy_b78 at h
  refine Rt.iload 2 dX0_readBy_78 rfl ?_
  refine Rt.iload 1 dX0_readBy_80 rfl ?_
  refine Rt.if_ne 91 dX0_readBy_82 (by decide) (fun c6 => ?_) (fun c6 => ?_)
  · replace h := (if_neg c6).symm.trans h
    refine Rt.iload 0 dX0_readBy_91 rfl ?_
    refine Rt.pick [3] rfl ?_
    exact wfX0_readBy_b93 X k hk v7 v4 v6 _ z h
  · replace h := (if_pos c6).symm.trans h
    refine Rt.iload 0 dX0_readBy_85 rfl ?_
    refine Rt.ineg dX0_readBy_87 ?_
    refine Rt.goto 93 dX0_readBy_88 (by decide) ?_
    refine Rt.pick [3] rfl ?_
    exact wfX0_readBy_b93 X k hk v7 (-v4) v6 _ z h
def fX0_readBy_b133 (k : Nat) (v6 : Int32) (s0 : Int32) (s1 : Int32) (σ : Sto) : Option (Int32 × Sto) := fX0_readBy_b136 k v6 (s1 + s0) σ
set_option maxRecDepth 100000 in
set_option maxHeartbeats 4000000 in
theorem wfX0_readBy_b133 (X : Scr) (k : Nat) (hk : bk k) (v6 : Int32) (s0 : Int32) (s1 : Int32) (σ : Sto) (z : Int32 × Sto) (h : fX0_readBy_b133 k v6 s0 s1 σ = some z) : Rt X RX0 cX0_readBy 8 (rmA 2 42) .ireturn 133 [(6, .int v6)] [.int s0, .int s1] σ (some (.int z.1)) z.2 := by
  unfold fX0_readBy_b133 at h
  refine Rt.iadd dX0_readBy_133 ?_
  refine Rt.istore [(7, _), (6, _)] dX0_readBy_134 (by decide) rfl ?_
  refine Rt.pick [1, 0] rfl ?_
  exact wfX0_readBy_b136 X k hk v6 (s1 + s0) _ z h
def fX0_readBy_b122 (k : Nat) (v4 : Int32) (v6 : Int32) (s0 : Int32) (s1 : Int32) (s2 : Int32) (σ : Sto) : Option (Int32 × Sto) := if s1 = s0 then (fX0_readBy_b133 k v6 (-v4) s2 σ) else (fX0_readBy_b133 k v6 v4 s2 σ)
set_option maxRecDepth 100000 in
set_option maxHeartbeats 4000000 in
theorem wfX0_readBy_b122 (X : Scr) (k : Nat) (hk : bk k) (v4 : Int32) (v6 : Int32) (s0 : Int32) (s1 : Int32) (s2 : Int32) (σ : Sto) (z : Int32 × Sto) (h : fX0_readBy_b122 k v4 v6 s0 s1 s2 σ = some z) : Rt X RX0 cX0_readBy 8 (rmA 2 42) .ireturn 122 [(4, .int v4), (6, .int v6)] [.int s0, .int s1, .int s2] σ (some (.int z.1)) z.2 := by
  unfold fX0_readBy_b122 at h
  refine Rt.icmp_ne 131 dX0_readBy_122 (by decide) (fun c10 => ?_) (fun c10 => ?_)
  · replace h := (if_neg c10).symm.trans h
    refine Rt.iload 0 dX0_readBy_131 rfl ?_
    refine Rt.pick [1] rfl ?_
    exact wfX0_readBy_b133 X k hk v6 v4 s2 _ z h
  · replace h := (if_pos c10).symm.trans h
    refine Rt.iload 0 dX0_readBy_125 rfl ?_
    refine Rt.ineg dX0_readBy_127 ?_
    refine Rt.goto 133 dX0_readBy_128 (by decide) ?_
    refine Rt.pick [1] rfl ?_
    exact wfX0_readBy_b133 X k hk v6 (-v4) s2 _ z h
def fX0_readBy_b112 (k : Nat) (v1 : Int32) (v4 : Int32) (v6 : Int32) (s0 : Int32) (s1 : Int32) (σ : Sto) : Option (Int32 × Sto) := if v1 = (3 : Int32) then (fX0_readBy_b122 k v4 v6 (0 : Int32) s0 s1 σ) else (fX0_readBy_b122 k v4 v6 (1 : Int32) s0 s1 σ)
set_option maxRecDepth 100000 in
set_option maxHeartbeats 4000000 in
theorem wfX0_readBy_b112 (X : Scr) (k : Nat) (hk : bk k) (v1 : Int32) (v4 : Int32) (v6 : Int32) (s0 : Int32) (s1 : Int32) (σ : Sto) (z : Int32 × Sto) (h : fX0_readBy_b112 k v1 v4 v6 s0 s1 σ = some z) : Rt X RX0 cX0_readBy 8 (rmA 2 42) .ireturn 112 [(1, .int v1), (4, .int v4), (6, .int v6)] [.int s0, .int s1] σ (some (.int z.1)) z.2 := by
  unfold fX0_readBy_b112 at h
  refine Rt.iload_n 0 dX0_readBy_112 rfl ?_
  refine Rt.iconst 3 dX0_readBy_113 (by decide) ?_
  refine Rt.icmp_eq 121 dX0_readBy_114 (by decide) (fun c9 => ?_) (fun c9 => ?_)
  · replace h := (if_pos c9).symm.trans h
    refine Rt.iconst 0 dX0_readBy_121 (by decide) ?_
    refine Rt.pick [1, 2] rfl ?_
    exact wfX0_readBy_b122 X k hk v4 v6 (0 : Int32) s0 s1 _ z h
  · replace h := (if_neg c9).symm.trans h
    refine Rt.iconst 1 dX0_readBy_117 (by decide) ?_
    refine Rt.goto 122 dX0_readBy_118 (by decide) ?_
    refine Rt.pick [1, 2] rfl ?_
    exact wfX0_readBy_b122 X k hk v4 v6 (1 : Int32) s0 s1 _ z h
def fX0_readBy_b39 (k : Nat) (v1 : Int32) (v2 : Int32) (s0 : Int32) (s1 : Int32) (σ : Sto) : Option (Int32 × Sto) := (fX0_stepsOf k s1 s0 σ).bind fun q1 => if (irm v2 (4 : Int32)) = 0 then (fX0_readBy_b78 k q1.1 (irm v2 (4 : Int32)) ((q1.2 k 3) / (6 : Int32)) (irm (q1.2 k 3) (6 : Int32)) q1.2) else (if (irm v2 (4 : Int32)) = (1 : Int32) then (fX0_readBy_b78 k q1.1 (irm v2 (4 : Int32)) ((q1.2 k 3) / (6 : Int32)) (irm (q1.2 k 3) (6 : Int32)) q1.2) else (if (irm v2 (4 : Int32)) = (2 : Int32) then (fX0_readBy_b112 k v1 q1.1 ((q1.2 k 3) / (6 : Int32)) (1 : Int32) (irm (q1.2 k 3) (6 : Int32)) q1.2) else (fX0_readBy_b112 k v1 q1.1 ((q1.2 k 3) / (6 : Int32)) (0 : Int32) (irm (q1.2 k 3) (6 : Int32)) q1.2)))
set_option maxRecDepth 100000 in
set_option maxHeartbeats 4000000 in
theorem wfX0_readBy_b39 (X : Scr) (k : Nat) (hk : bk k) (v1 : Int32) (v2 : Int32) (s0 : Int32) (s1 : Int32) (σ : Sto) (z : Int32 × Sto) (h : fX0_readBy_b39 k v1 v2 s0 s1 σ = some z) : Rt X RX0 cX0_readBy 8 (rmA 2 42) .ireturn 39 [(0, .ref k), (1, .int v1), (2, .int v2)] [.int s0, .int s1, .ref k] σ (some (.int z.1)) z.2 := by
  unfold fX0_readBy_b39 at h
  obtain ⟨q1, e1, h⟩ := bnd h
  refine Rt.cV (mfX0_stepsOf k hk s1 s0 _ q1 e1) lkX0_85 hk.1 rfl rfl rfl ⟨Nat.le_of_ble_eq_true rfl, Nat.le_of_ble_eq_true rfl⟩ (Nat.le_of_ble_eq_true rfl) rfl dX0_readBy_39 ?_
  refine Rt.istore [(4, _), (0, _), (1, _), (2, _)] dX0_readBy_42 (by decide) rfl ?_
  refine Rt.iload_n 3 dX0_readBy_44 rfl ?_
  refine Rt.iconst 4 dX0_readBy_45 (by decide) ?_
  refine Rt.rem dX0_readBy_46 (by decide) ?_
  refine Rt.istore [(5, _), (4, _), (0, _), (1, _), (2, _)] dX0_readBy_47 (by decide) rfl ?_
  refine Rt.aload_n 2 dX0_readBy_49 rfl ?_
  refine gfX0_22 hk.1 dX0_readBy_50 ?_
  refine Rt.bipush 6 dX0_readBy_53 (by decide) ?_
  refine Rt.idiv dX0_readBy_55 (by decide) ?_
  refine Rt.istore [(6, _), (5, _), (4, _), (0, _), (1, _), (2, _)] dX0_readBy_56 (by decide) rfl ?_
  refine Rt.aload_n 3 dX0_readBy_58 rfl ?_
  refine gfX0_22 hk.1 dX0_readBy_59 ?_
  refine Rt.bipush 6 dX0_readBy_62 (by decide) ?_
  refine Rt.rem dX0_readBy_64 (by decide) ?_
  refine Rt.istore [(7, _), (6, _), (5, _), (4, _), (0, _), (1, _), (2, _)] dX0_readBy_65 (by decide) rfl ?_
  refine Rt.iload 2 dX0_readBy_67 rfl ?_
  refine Rt.if_eq 78 dX0_readBy_69 (by decide) (fun c5 => ?_) (fun c5 => ?_)
  · replace h := (if_pos c5).symm.trans h
    refine Rt.pick [3, 2, 1, 0] rfl ?_
    exact wfX0_readBy_b78 X k hk q1.1 (irm v2 (4 : Int32)) ((q1.2 k 3) / (6 : Int32)) (irm (q1.2 k 3) (6 : Int32)) _ z h
  · replace h := (if_neg c5).symm.trans h
    refine Rt.iload 2 dX0_readBy_72 rfl ?_
    refine Rt.iconst 1 dX0_readBy_74 (by decide) ?_
    refine Rt.icmp_ne 99 dX0_readBy_75 (by decide) (fun c7 => ?_) (fun c7 => ?_)
    · replace h := (if_neg c7).symm.trans h
      refine Rt.iload 0 dX0_readBy_99 rfl ?_
      refine Rt.iload 2 dX0_readBy_101 rfl ?_
      refine Rt.iconst 2 dX0_readBy_103 (by decide) ?_
      refine Rt.icmp_ne 111 dX0_readBy_104 (by decide) (fun c8 => ?_) (fun c8 => ?_)
      · replace h := (if_neg c8).symm.trans h
        refine Rt.iconst 0 dX0_readBy_111 (by decide) ?_
        refine Rt.pick [5, 3, 1] rfl ?_
        exact wfX0_readBy_b112 X k hk v1 q1.1 ((q1.2 k 3) / (6 : Int32)) (0 : Int32) (irm (q1.2 k 3) (6 : Int32)) _ z h
      · replace h := (if_pos c8).symm.trans h
        refine Rt.iconst 1 dX0_readBy_107 (by decide) ?_
        refine Rt.goto 112 dX0_readBy_108 (by decide) ?_
        refine Rt.pick [5, 3, 1] rfl ?_
        exact wfX0_readBy_b112 X k hk v1 q1.1 ((q1.2 k 3) / (6 : Int32)) (1 : Int32) (irm (q1.2 k 3) (6 : Int32)) _ z h
    · replace h := (if_pos c7).symm.trans h
      refine Rt.pick [3, 2, 1, 0] rfl ?_
      exact wfX0_readBy_b78 X k hk q1.1 (irm v2 (4 : Int32)) ((q1.2 k 3) / (6 : Int32)) (irm (q1.2 k 3) (6 : Int32)) _ z h
def fX0_readBy (k : Nat) (v1 : Int32) (v2 : Int32) (v3 : Int32) (σ : Sto) : Option (Int32 × Sto) := if v1 = (5 : Int32) then ((fJ9_floorMod_7cf53 v3 (24 : Int32) σ).bind fun q4 => some (q4.1, q4.2)) else (if v2 < 0 then (fX0_readBy_b22 k σ) else (if v2 < (8 : Int32) then (if v2 < (4 : Int32) then (fX0_readBy_b39 k v1 v2 (0 : Int32) v1 σ) else (fX0_readBy_b39 k v1 v2 (1 : Int32) v1 σ)) else (fX0_readBy_b22 k σ)))
set_option maxRecDepth 100000 in
set_option maxHeartbeats 4000000 in
theorem wfX0_readBy (X : Scr) (k : Nat) (hk : bk k) (v1 : Int32) (v2 : Int32) (v3 : Int32) (σ : Sto) (z : Int32 × Sto) (h : fX0_readBy k v1 v2 v3 σ = some z) : Rt X RX0 cX0_readBy 8 (rmA 2 42) .ireturn 0 [(0, .ref k), (1, .int v1), (2, .int v2), (3, .int v3)] [] σ (some (.int z.1)) z.2 := by
  unfold fX0_readBy at h
  refine Rt.iload_n 1 dX0_readBy_0 rfl ?_
  refine Rt.iconst 5 dX0_readBy_1 (by decide) ?_
  refine Rt.icmp_ne 12 dX0_readBy_2 (by decide) (fun c1 => ?_) (fun c1 => ?_)
  · replace h := (if_neg c1).symm.trans h
    refine Rt.iload_n 2 dX0_readBy_12 rfl ?_
    refine Rt.if_lt 22 dX0_readBy_13 (by decide) (fun c2 => ?_) (fun c2 => ?_)
    · replace h := (if_pos c2).symm.trans h
      refine Rt.pick [0] rfl ?_
      exact wfX0_readBy_b22 X k hk _ z h
    · replace h := (if_neg c2).symm.trans h
      refine Rt.iload_n 2 dX0_readBy_16 rfl ?_
      refine Rt.bipush 8 dX0_readBy_17 (by decide) ?_
      refine Rt.icmp_lt 27 dX0_readBy_19 (by decide) (fun c3 => ?_) (fun c3 => ?_)
      · replace h := (if_pos c3).symm.trans h
        refine Rt.aload_n 0 dX0_readBy_27 rfl ?_
        refine Rt.iload_n 1 dX0_readBy_28 rfl ?_
        refine Rt.iload_n 2 dX0_readBy_29 rfl ?_
        refine Rt.iconst 4 dX0_readBy_30 (by decide) ?_
        refine Rt.icmp_lt 38 dX0_readBy_31 (by decide) (fun c4 => ?_) (fun c4 => ?_)
        · replace h := (if_pos c4).symm.trans h
          refine Rt.iconst 0 dX0_readBy_38 (by decide) ?_
          refine Rt.pick [0, 1, 2] rfl ?_
          exact wfX0_readBy_b39 X k hk v1 v2 (0 : Int32) v1 _ z h
        · replace h := (if_neg c4).symm.trans h
          refine Rt.iconst 1 dX0_readBy_34 (by decide) ?_
          refine Rt.goto 39 dX0_readBy_35 (by decide) ?_
          refine Rt.pick [0, 1, 2] rfl ?_
          exact wfX0_readBy_b39 X k hk v1 v2 (1 : Int32) v1 _ z h
      · replace h := (if_neg c3).symm.trans h
        refine Rt.pick [0] rfl ?_
        exact wfX0_readBy_b22 X k hk _ z h
  · replace h := (if_pos c1).symm.trans h
    refine Rt.iload_n 3 dX0_readBy_5 rfl ?_
    refine Rt.bipush 24 dX0_readBy_6 (by decide) ?_
    obtain ⟨q4, e4, h⟩ := bnd h
    refine Rt.cS (mfJ9_floorMod_7cf53 v3 (24 : Int32) _ q4 e4) lkX0_82 rfl ⟨Nat.le_of_ble_eq_true rfl, Nat.le_of_ble_eq_true rfl⟩ (Nat.le_of_ble_eq_true rfl) rfl dX0_readBy_8 ?_
    obtain rfl := Option.some.inj h
    exact Rt.ret (v := some (.int q4.1)) dX0_readBy_11 rfl rfl rfl
set_option maxRecDepth 100000 in
set_option maxHeartbeats 4000000 in
theorem mfX0_readBy (k : Nat) (hk : bk k) (v1 : Int32) (v2 : Int32) (v3 : Int32) (σ : Sto) (z : Int32 × Sto) (h : fX0_readBy k v1 v2 v3 σ = some z) : AM yX0_readBy cX0_readBy 8 (some .int) 2 42 [.ref k, .int v1, .int v2, .int v3] σ (some (.int z.1)) z.2 := AM.int rfl (Nat.le_of_ble_eq_true rfl) (fun X => wfX0_readBy X k hk v1 v2 v3 σ z h)
-- fX3_reads
def fX3_reads_b18 (σ : Sto) : Option (Int32 × Sto) := (fX3_refuse (-2 : Int32) σ).bind fun q2 => some (q2.1, q2.2)
set_option maxRecDepth 100000 in
set_option maxHeartbeats 4000000 in
theorem wfX3_reads_b18 (X : Scr) (σ : Sto) (z : Int32 × Sto) (h : fX3_reads_b18 σ = some z) : Rt X RX3 cX3_reads 4 (rmA 3 69) .ireturn 18 [(0, .ref 0)] [] σ (some (.int z.1)) z.2 := by
  unfold fX3_reads_b18 at h
  refine Rt.aload_n 0 dX3_reads_18 rfl ?_
  refine Rt.bipush (-2) dX3_reads_19 (by decide) ?_
  obtain ⟨q2, e2, h⟩ := bnd h
  refine Rt.cV (mfX3_refuse (-2 : Int32) _ q2 e2) lkX3_57 ly0 rfl rfl rfl ⟨Nat.le_of_ble_eq_true rfl, Nat.le_of_ble_eq_true rfl⟩ (Nat.le_of_ble_eq_true rfl) rfl dX3_reads_21 ?_
  obtain rfl := Option.some.inj h
  exact Rt.ret (v := some (.int q2.1)) dX3_reads_24 rfl rfl rfl
def fX3_reads (v1 : Int32) (v2 : Int32) (v3 : Int32) (σ : Sto) : Option (Int32 × Sto) := (fX3_isNot v1 (6 : Int32) σ).bind fun q1 => if q1.1 = 0 then ((fX3_isNot v2 (9 : Int32) q1.2).bind fun q3 => if q3.1 = 0 then (if 0 ≤ v3 then ((fX0_readBy 1 v1 v2 v3 q3.2).bind fun q4 => some (q4.1, q4.2)) else ((fX3_refuse (-4 : Int32) q3.2).bind fun q5 => some (q5.1, q5.2))) else (fX3_reads_b18 q3.2)) else (fX3_reads_b18 q1.2)
set_option maxRecDepth 100000 in
set_option maxHeartbeats 4000000 in
theorem wfX3_reads (X : Scr) (v1 : Int32) (v2 : Int32) (v3 : Int32) (σ : Sto) (z : Int32 × Sto) (h : fX3_reads v1 v2 v3 σ = some z) : Rt X RX3 cX3_reads 4 (rmA 3 69) .ireturn 0 [(0, .ref 0), (1, .int v1), (2, .int v2), (3, .int v3)] [] σ (some (.int z.1)) z.2 := by
  unfold fX3_reads at h
  refine Rt.iload_n 1 dX3_reads_0 rfl ?_
  refine Rt.bipush 6 dX3_reads_1 (by decide) ?_
  obtain ⟨q1, e1, h⟩ := bnd h
  refine Rt.cS (mfX3_isNot v1 (6 : Int32) _ q1 e1) lkX3_75 rfl ⟨Nat.le_of_ble_eq_true rfl, Nat.le_of_ble_eq_true rfl⟩ (Nat.le_of_ble_eq_true rfl) rfl dX3_reads_3 ?_
  refine Rt.if_ne 18 dX3_reads_6 (by decide) (fun c1 => ?_) (fun c1 => ?_)
  · replace h := (if_neg c1).symm.trans h
    refine Rt.pick [0] rfl ?_
    exact wfX3_reads_b18 X _ z h
  · replace h := (if_pos c1).symm.trans h
    refine Rt.iload_n 2 dX3_reads_9 rfl ?_
    refine Rt.bipush 9 dX3_reads_10 (by decide) ?_
    obtain ⟨q3, e3, h⟩ := bnd h
    refine Rt.cS (mfX3_isNot v2 (9 : Int32) _ q3 e3) lkX3_75 rfl ⟨Nat.le_of_ble_eq_true rfl, Nat.le_of_ble_eq_true rfl⟩ (Nat.le_of_ble_eq_true rfl) rfl dX3_reads_12 ?_
    refine Rt.if_eq 25 dX3_reads_15 (by decide) (fun c2 => ?_) (fun c2 => ?_)
    · replace h := (if_pos c2).symm.trans h
      refine Rt.iload_n 3 dX3_reads_25 rfl ?_
      refine Rt.if_ge 36 dX3_reads_26 (by decide) (fun c3 => ?_) (fun c3 => ?_)
      · replace h := (if_pos c3).symm.trans h
        refine Rt.aload_n 0 dX3_reads_36 rfl ?_
        refine gfX3_10 ly0 dX3_reads_37 ?_
        refine Rt.iload_n 1 dX3_reads_40 rfl ?_
        refine Rt.iload_n 2 dX3_reads_41 rfl ?_
        refine Rt.iload_n 3 dX3_reads_42 rfl ?_
        obtain ⟨q4, e4, h⟩ := bnd h
        refine Rt.cVN (mfX0_readBy 1 bk1 v1 v2 v3 _ q4 e4) lkX3_130 bk1.1 rfl rfl rfl ⟨Nat.le_of_ble_eq_true rfl, Nat.le_of_ble_eq_true rfl⟩ (Nat.le_of_ble_eq_true rfl) rfl dX3_reads_43 ?_
        obtain rfl := Option.some.inj h
        exact Rt.ret (v := some (.int q4.1)) dX3_reads_46 rfl rfl rfl
      · replace h := (if_neg c3).symm.trans h
        refine Rt.aload_n 0 dX3_reads_29 rfl ?_
        refine Rt.bipush (-4) dX3_reads_30 (by decide) ?_
        obtain ⟨q5, e5, h⟩ := bnd h
        refine Rt.cV (mfX3_refuse (-4 : Int32) _ q5 e5) lkX3_57 ly0 rfl rfl rfl ⟨Nat.le_of_ble_eq_true rfl, Nat.le_of_ble_eq_true rfl⟩ (Nat.le_of_ble_eq_true rfl) rfl dX3_reads_32 ?_
        obtain rfl := Option.some.inj h
        exact Rt.ret (v := some (.int q5.1)) dX3_reads_35 rfl rfl rfl
    · replace h := (if_neg c2).symm.trans h
      refine Rt.pick [0] rfl ?_
      exact wfX3_reads_b18 X _ z h
set_option maxRecDepth 100000 in
set_option maxHeartbeats 4000000 in
theorem mfX3_reads (v1 : Int32) (v2 : Int32) (v3 : Int32) (σ : Sto) (z : Int32 × Sto) (h : fX3_reads v1 v2 v3 σ = some z) : AM yX3_reads cX3_reads 4 (some .int) 3 69 [.ref 0, .int v1, .int v2, .int v3] σ (some (.int z.1)) z.2 := AM.int rfl (Nat.le_of_ble_eq_true rfl) (fun X => wfX3_reads X v1 v2 v3 σ z h)
-- fX0_followBy
def fX0_followBy_l2 (k : Nat) : Nat → Int32 → Int32 → Sto → Option (Int32 × Sto)
  | 0, _, _, _ => none
  | n + 1, v1, v2, σ => if (40 : Int32) ≤ v2 then (if (σ k 2) = (24 : Int32) then (some ((40 : Int32), σ)) else (some ((41 : Int32), σ))) else (if (σ k 2) = (24 : Int32) then (some (v2, σ)) else ((fX0_wordNow k σ).bind fun q1 => (fX0_readBy k v1 q1.1 v2 q1.2).bind fun q2 => (fX0_strokeOn k q2.1 q2.2).bind fun q3 => fX0_followBy_l2 k n v1 (v2 + (1 : Int32)) q3.2))
set_option maxRecDepth 100000 in
set_option maxHeartbeats 4000000 in
theorem wfX0_followBy_l2 (X : Scr) (k : Nat) (hk : bk k) : ∀ (n : Nat) (v1 : Int32) (v2 : Int32) (σ : Sto) (z : Int32 × Sto), fX0_followBy_l2 k n v1 v2 σ = some z → Rt X RX0 cX0_followBy 3 (rmA 3 69) .ireturn 2 [(0, .ref k), (1, .int v1), (2, .int v2)] [] σ (some (.int z.1)) z.2 := by
  intro n
  induction n with
  | zero =>
    intro v1 v2 σ z h
    rw [fX0_followBy_l2] at h
    cases h
  | succ n ih =>
    intro v1 v2 σ z h
    rw [fX0_followBy_l2] at h
    refine Rt.iload_n 2 dX0_followBy_2 rfl ?_
    refine Rt.bipush 40 dX0_followBy_3 (by decide) ?_
    refine Rt.icmp_ge 39 dX0_followBy_5 (by decide) (fun c1 => ?_) (fun c1 => ?_)
    · replace h := (if_pos c1).symm.trans h
      refine Rt.aload_n 0 dX0_followBy_39 rfl ?_
      refine gfX0_19 hk.1 dX0_followBy_40 ?_
      refine Rt.bipush 24 dX0_followBy_43 (by decide) ?_
      refine Rt.icmp_ne 53 dX0_followBy_45 (by decide) (fun c2 => ?_) (fun c2 => ?_)
      · replace h := (if_neg c2).symm.trans h
        refine Rt.bipush 41 dX0_followBy_53 (by decide) ?_
        obtain rfl := Option.some.inj h
        exact Rt.ret (v := some (.int (41 : Int32))) dX0_followBy_55 rfl rfl rfl
      · replace h := (if_pos c2).symm.trans h
        refine Rt.bipush 40 dX0_followBy_48 (by decide) ?_
        refine Rt.goto 55 dX0_followBy_50 (by decide) ?_
        obtain rfl := Option.some.inj h
        exact Rt.ret (v := some (.int (40 : Int32))) dX0_followBy_55 rfl rfl rfl
    · replace h := (if_neg c1).symm.trans h
      refine Rt.aload_n 0 dX0_followBy_8 rfl ?_
      refine gfX0_19 hk.1 dX0_followBy_9 ?_
      refine Rt.bipush 24 dX0_followBy_12 (by decide) ?_
      refine Rt.icmp_ne 19 dX0_followBy_14 (by decide) (fun c3 => ?_) (fun c3 => ?_)
      · replace h := (if_neg c3).symm.trans h
        refine Rt.aload_n 0 dX0_followBy_19 rfl ?_
        refine Rt.aload_n 0 dX0_followBy_20 rfl ?_
        refine Rt.iload_n 1 dX0_followBy_21 rfl ?_
        refine Rt.aload_n 0 dX0_followBy_22 rfl ?_
        obtain ⟨q1, e1, h⟩ := bnd h
        refine Rt.cV (mfX0_wordNow k hk _ q1 e1) lkX0_95 hk.1 rfl rfl rfl ⟨Nat.le_of_ble_eq_true rfl, Nat.le_of_ble_eq_true rfl⟩ (Nat.le_of_ble_eq_true rfl) rfl dX0_followBy_23 ?_
        refine Rt.iload_n 2 dX0_followBy_26 rfl ?_
        obtain ⟨q2, e2, h⟩ := bnd h
        refine Rt.cV (mfX0_readBy k hk v1 q1.1 v2 _ q2 e2) lkX0_98 hk.1 rfl rfl rfl ⟨Nat.le_of_ble_eq_true rfl, Nat.le_of_ble_eq_true rfl⟩ (Nat.le_of_ble_eq_true rfl) rfl dX0_followBy_27 ?_
        obtain ⟨q3, e3, h⟩ := bnd h
        refine Rt.cV0 (mfX0_strokeOn k hk q2.1 _ q3 e3) lkX0_102 hk.1 rfl rfl rfl ⟨Nat.le_of_ble_eq_true rfl, Nat.le_of_ble_eq_true rfl⟩ (Nat.le_of_ble_eq_true rfl) rfl dX0_followBy_30 ?_
        refine Rt.iinc [(2, _), (0, _), (1, _)] (v2 + (1 : Int32)) 2 dX0_followBy_33 rfl rfl (by decide) rfl ?_
        refine Rt.goto 2 dX0_followBy_36 (by decide) ?_
        refine Rt.pick [1, 2, 0] rfl ?_
        exact ih v1 (v2 + (1 : Int32)) _ z h
      · replace h := (if_pos c3).symm.trans h
        refine Rt.iload_n 2 dX0_followBy_17 rfl ?_
        obtain rfl := Option.some.inj h
        exact Rt.ret (v := some (.int v2)) dX0_followBy_18 rfl rfl rfl
def fX0_followBy (k : Nat) (v1 : Int32) (σ : Sto) : Option (Int32 × Sto) := fX0_followBy_l2 k 300 v1 (0 : Int32) σ
set_option maxRecDepth 100000 in
set_option maxHeartbeats 4000000 in
theorem wfX0_followBy (X : Scr) (k : Nat) (hk : bk k) (v1 : Int32) (σ : Sto) (z : Int32 × Sto) (h : fX0_followBy k v1 σ = some z) : Rt X RX0 cX0_followBy 3 (rmA 3 69) .ireturn 0 [(0, .ref k), (1, .int v1)] [] σ (some (.int z.1)) z.2 := by
  unfold fX0_followBy at h
  refine Rt.iconst 0 dX0_followBy_0 (by decide) ?_
  refine Rt.istore_n [(2, _), (0, _), (1, _)] dX0_followBy_1 (by decide) rfl ?_
  refine Rt.pick [1, 2, 0] rfl ?_
  exact wfX0_followBy_l2 X k hk 300 v1 (0 : Int32) _ z h
set_option maxRecDepth 100000 in
set_option maxHeartbeats 4000000 in
theorem mfX0_followBy (k : Nat) (hk : bk k) (v1 : Int32) (σ : Sto) (z : Int32 × Sto) (h : fX0_followBy k v1 σ = some z) : AM yX0_followBy cX0_followBy 3 (some .int) 3 69 [.ref k, .int v1] σ (some (.int z.1)) z.2 := AM.int rfl (Nat.le_of_ble_eq_true rfl) (fun X => wfX0_followBy X k hk v1 σ z h)
-- fX3_follow
def fX3_follow (v1 : Int32) (σ : Sto) : Option (Int32 × Sto) := (fX3_isNot v1 (6 : Int32) σ).bind fun q1 => if q1.1 = 0 then ((fX0_take 5 1 q1.2).bind fun q2 => (fX0_followBy 5 v1 q2.2).bind fun q3 => if q3.1 ≤ (40 : Int32) then (some (q3.1, q3.2)) else (some ((-9 : Int32), q3.2))) else ((fX3_refuse (-2 : Int32) q1.2).bind fun q4 => some (q4.1, q4.2))
set_option maxRecDepth 100000 in
set_option maxHeartbeats 4000000 in
theorem wfX3_follow (X : Scr) (v1 : Int32) (σ : Sto) (z : Int32 × Sto) (h : fX3_follow v1 σ = some z) : Rt X RX3 cX3_follow 3 (rmA 4 91) .ireturn 0 [(0, .ref 0), (1, .int v1)] [] σ (some (.int z.1)) z.2 := by
  unfold fX3_follow at h
  refine Rt.iload_n 1 dX3_follow_0 rfl ?_
  refine Rt.bipush 6 dX3_follow_1 (by decide) ?_
  obtain ⟨q1, e1, h⟩ := bnd h
  refine Rt.cS (mfX3_isNot v1 (6 : Int32) _ q1 e1) lkX3_75 rfl ⟨Nat.le_of_ble_eq_true rfl, Nat.le_of_ble_eq_true rfl⟩ (Nat.le_of_ble_eq_true rfl) rfl dX3_follow_3 ?_
  refine Rt.if_eq 16 dX3_follow_6 (by decide) (fun c1 => ?_) (fun c1 => ?_)
  · replace h := (if_pos c1).symm.trans h
    refine Rt.aload_n 0 dX3_follow_16 rfl ?_
    refine gfX3_19 ly0 dX3_follow_17 ?_
    refine Rt.aload_n 0 dX3_follow_20 rfl ?_
    refine gfX3_10 ly0 dX3_follow_21 ?_
    obtain ⟨q2, e2, h⟩ := bnd h
    refine Rt.cVN0 (mfX0_take 5 bk5 1 bk1 _ q2 e2) lkX3_67 bk5.1 rfl rfl rfl ⟨Nat.le_of_ble_eq_true rfl, Nat.le_of_ble_eq_true rfl⟩ (Nat.le_of_ble_eq_true rfl) rfl dX3_follow_24 ?_
    refine Rt.aload_n 0 dX3_follow_27 rfl ?_
    refine gfX3_19 ly0 dX3_follow_28 ?_
    refine Rt.iload_n 1 dX3_follow_31 rfl ?_
    obtain ⟨q3, e3, h⟩ := bnd h
    refine Rt.cVN (mfX0_followBy 5 bk5 v1 _ q3 e3) lkX3_134 bk5.1 rfl rfl rfl ⟨Nat.le_of_ble_eq_true rfl, Nat.le_of_ble_eq_true rfl⟩ (Nat.le_of_ble_eq_true rfl) rfl dX3_follow_32 ?_
    refine Rt.istore_n [(2, _), (0, _), (1, _)] dX3_follow_35 (by decide) rfl ?_
    refine Rt.iload_n 0 dX3_follow_36 rfl ?_
    refine Rt.bipush 40 dX3_follow_37 (by decide) ?_
    refine Rt.icmp_le 47 dX3_follow_39 (by decide) (fun c2 => ?_) (fun c2 => ?_)
    · replace h := (if_pos c2).symm.trans h
      refine Rt.iload_n 0 dX3_follow_47 rfl ?_
      obtain rfl := Option.some.inj h
      exact Rt.ret (v := some (.int q3.1)) dX3_follow_48 rfl rfl rfl
    · replace h := (if_neg c2).symm.trans h
      refine Rt.bipush (-9) dX3_follow_42 (by decide) ?_
      refine Rt.goto 48 dX3_follow_44 (by decide) ?_
      obtain rfl := Option.some.inj h
      exact Rt.ret (v := some (.int (-9 : Int32))) dX3_follow_48 rfl rfl rfl
  · replace h := (if_neg c1).symm.trans h
    refine Rt.aload_n 0 dX3_follow_9 rfl ?_
    refine Rt.bipush (-2) dX3_follow_10 (by decide) ?_
    obtain ⟨q4, e4, h⟩ := bnd h
    refine Rt.cV (mfX3_refuse (-2 : Int32) _ q4 e4) lkX3_57 ly0 rfl rfl rfl ⟨Nat.le_of_ble_eq_true rfl, Nat.le_of_ble_eq_true rfl⟩ (Nat.le_of_ble_eq_true rfl) rfl dX3_follow_12 ?_
    obtain rfl := Option.some.inj h
    exact Rt.ret (v := some (.int q4.1)) dX3_follow_15 rfl rfl rfl
set_option maxRecDepth 100000 in
set_option maxHeartbeats 4000000 in
theorem mfX3_follow (v1 : Int32) (σ : Sto) (z : Int32 × Sto) (h : fX3_follow v1 σ = some z) : AM yX3_follow cX3_follow 3 (some .int) 4 91 [.ref 0, .int v1] σ (some (.int z.1)) z.2 := AM.int rfl (Nat.le_of_ble_eq_true rfl) (fun X => wfX3_follow X v1 σ z h)
-- fX3_refuseLong
def fX3_refuseLong (v1 : Int32) (σ : Sto) : Option (Int64 × Sto) := (fX3_refuse v1 σ).bind fun q1 => some (((4000000000000000000 : Int64) - ((q1.1).toInt64)), q1.2)
set_option maxRecDepth 100000 in
set_option maxHeartbeats 4000000 in
theorem wfX3_refuseLong (X : Scr) (v1 : Int32) (σ : Sto) (z : Int64 × Sto) (h : fX3_refuseLong v1 σ = some z) : Rt X RX3 cX3_refuseLong 2 (rmA 1 22) .lreturn 0 [(0, .ref 0), (1, .int v1)] [] σ (some (.long z.1)) z.2 := by
  unfold fX3_refuseLong at h
  refine Rt.ldc2 4000000000000000000 clX3_201 dX3_refuseLong_0 ?_
  refine Rt.aload_n 0 dX3_refuseLong_3 rfl ?_
  refine Rt.iload_n 1 dX3_refuseLong_4 rfl ?_
  obtain ⟨q1, e1, h⟩ := bnd h
  refine Rt.cV (mfX3_refuse v1 _ q1 e1) lkX3_57 ly0 rfl rfl rfl ⟨Nat.le_of_ble_eq_true rfl, Nat.le_of_ble_eq_true rfl⟩ (Nat.le_of_ble_eq_true rfl) rfl dX3_refuseLong_5 ?_
  refine Rt.i2l dX3_refuseLong_8 ?_
  refine Rt.lsub dX3_refuseLong_9 ?_
  obtain rfl := Option.some.inj h
  exact Rt.ret (v := some (.long ((4000000000000000000 : Int64) - ((q1.1).toInt64)))) dX3_refuseLong_10 rfl rfl rfl
set_option maxRecDepth 100000 in
set_option maxHeartbeats 4000000 in
theorem mfX3_refuseLong (v1 : Int32) (σ : Sto) (z : Int64 × Sto) (h : fX3_refuseLong v1 σ = some z) : AM yX3_refuseLong cX3_refuseLong 2 (some .long) 1 22 [.ref 0, .int v1] σ (some (.long z.1)) z.2 := AM.long rfl (Nat.le_of_ble_eq_true rfl) (fun X => wfX3_refuseLong X v1 σ z h)
