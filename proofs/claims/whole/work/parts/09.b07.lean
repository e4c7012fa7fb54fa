-- fL_law
def fL_law_b1055 (k18 : Int32 → Sto → Option (Int32 × Sto)) (X : Scr) (v3 : Int32) (σ : Sto) : Option (Int32 × Sto) := k18 (v3 + (5 : Int32)) σ
set_option maxRecDepth 100000 in
set_option maxHeartbeats 4000000 in
theorem wfL_law_b1055 (X : Scr) (k18 : Int32 → Sto → Option (Int32 × Sto)) (hk18 : ∀ (v3 : Int32) (σ : Sto) (z : Int32 × Sto), k18 v3 σ = some z → Rt X RL cL_law 4 room_1 .ireturn 18 [(0, .ref 30), (1, .ref 0), (2, .ref 17), (3, .int v3)] [] σ (some (.int z.1)) z.2) (v3 : Int32) (σ : Sto) (z : Int32 × Sto) (h : fL_law_b1055 k18 X v3 σ = some z) : Rt X RL cL_law 4 room_1 .ireturn 1055 [(0, .ref 30), (1, .ref 0), (2, .ref 17), (3, .int v3)] [] σ (some (.int z.1)) z.2 := by
  unfold fL_law_b1055 at h
  refine Rt.iinc [(3, _), (0, _), (1, _), (2, _)] (v3 + (5 : Int32)) 3 dL_law_1055 rfl rfl (by decide) rfl ?_
  refine Rt.goto 18 dL_law_1058 (by decide) ?_
  refine Rt.pick [1, 2, 3, 0] rfl ?_
  exact hk18 (v3 + (5 : Int32)) _ z h
def fL_law_b188 (k18 : Int32 → Sto → Option (Int32 × Sto)) (X : Scr) (v3 : Int32) (σ : Sto) : Option (Int32 × Sto) := if inb (v3 + (1 : Int32)) X.1 = true then ((fX3_letter (X.2 ((v3 + (1 : Int32))).toNatClampNeg) σ).bind fun q1 => if inb (v3 + (1 : Int32)) X.1 = true then ((fX4_letter (X.2 ((v3 + (1 : Int32))).toNatClampNeg) q1.2).bind fun q2 => if q1.1 = q2.1 then (fL_law_b1055 k18 X v3 q2.2) else (some ((0 : Int32), q2.2))) else none) else none
set_option maxRecDepth 100000 in
set_option maxHeartbeats 4000000 in
theorem wfL_law_b188 (X : Scr) (k18 : Int32 → Sto → Option (Int32 × Sto)) (hk18 : ∀ (v3 : Int32) (σ : Sto) (z : Int32 × Sto), k18 v3 σ = some z → Rt X RL cL_law 4 room_1 .ireturn 18 [(0, .ref 30), (1, .ref 0), (2, .ref 17), (3, .int v3)] [] σ (some (.int z.1)) z.2) (v3 : Int32) (σ : Sto) (z : Int32 × Sto) (h : fL_law_b188 k18 X v3 σ = some z) : Rt X RL cL_law 4 room_1 .ireturn 188 [(0, .ref 30), (1, .ref 0), (2, .ref 17), (3, .int v3)] [] σ (some (.int z.1)) z.2 := by
  unfold fL_law_b188 at h
  refine Rt.aload_n 1 dL_law_188 rfl ?_
  refine Rt.aload_n 0 dL_law_189 rfl ?_
  refine Rt.iload_n 3 dL_law_190 rfl ?_
  refine Rt.iconst 1 dL_law_191 (by decide) ?_
  refine Rt.iadd dL_law_192 ?_
  obtain ⟨g4, h⟩ := gd h
  refine Rt.ialdX g4 dL_law_193 ?_
  obtain ⟨q1, e1, h⟩ := bnd h
  refine Rt.cV (mfX3_letter (X.2 ((v3 + (1 : Int32))).toNatClampNeg) _ q1 e1) lkL_13 ly0 rfl rfl rfl ⟨Nat.le_of_ble_eq_true rfl, Nat.le_of_ble_eq_true rfl⟩ (Nat.le_of_ble_eq_true rfl) rfl dL_law_194 ?_
  refine Rt.aload_n 2 dL_law_197 rfl ?_
  refine Rt.aload_n 0 dL_law_198 rfl ?_
  refine Rt.iload_n 3 dL_law_199 rfl ?_
  refine Rt.iconst 1 dL_law_200 (by decide) ?_
  refine Rt.iadd dL_law_201 ?_
  obtain ⟨g5, h⟩ := gd h
  refine Rt.ialdX g5 dL_law_202 ?_
  obtain ⟨q2, e2, h⟩ := bnd h
  refine Rt.cV (mfX4_letter (X.2 ((v3 + (1 : Int32))).toNatClampNeg) _ q2 e2) lkL_17 ly17 rfl rfl rfl ⟨Nat.le_of_ble_eq_true rfl, Nat.le_of_ble_eq_true rfl⟩ (Nat.le_of_ble_eq_true rfl) rfl dL_law_203 ?_
  refine Rt.icmp_eq 1055 dL_law_206 (by decide) (fun c6 => ?_) (fun c6 => ?_)
  · replace h := (if_pos c6).symm.trans h
    exact wfL_law_b1055 X k18 hk18 v3 _ z h
  · replace h := (if_neg c6).symm.trans h
    refine Rt.iconst 0 dL_law_209 (by decide) ?_
    obtain rfl := Option.some.inj h
    exact Rt.ret (v := some (.int (0 : Int32))) dL_law_210 rfl rfl rfl
def fL_law_b211 (k18 : Int32 → Sto → Option (Int32 × Sto)) (X : Scr) (v3 : Int32) (σ : Sto) : Option (Int32 × Sto) := (fX3_back σ).bind fun q3 => (fX4_back q3.2).bind fun q4 => if q3.1 = q4.1 then (fL_law_b1055 k18 X v3 q4.2) else (some ((0 : Int32), q4.2))
set_option maxRecDepth 100000 in
set_option maxHeartbeats 4000000 in
theorem wfL_law_b211 (X : Scr) (k18 : Int32 → Sto → Option (Int32 × Sto)) (hk18 : ∀ (v3 : Int32) (σ : Sto) (z : Int32 × Sto), k18 v3 σ = some z → Rt X RL cL_law 4 room_1 .ireturn 18 [(0, .ref 30), (1, .ref 0), (2, .ref 17), (3, .int v3)] [] σ (some (.int z.1)) z.2) (v3 : Int32) (σ : Sto) (z : Int32 × Sto) (h : fL_law_b211 k18 X v3 σ = some z) : Rt X RL cL_law 4 room_1 .ireturn 211 [(0, .ref 30), (1, .ref 0), (2, .ref 17), (3, .int v3)] [] σ (some (.int z.1)) z.2 := by
  unfold fL_law_b211 at h
  refine Rt.aload_n 1 dL_law_211 rfl ?_
  obtain ⟨q3, e3, h⟩ := bnd h
  refine Rt.cV (mfX3_back _ q3 e3) lkL_18 ly0 rfl rfl rfl ⟨Nat.le_of_ble_eq_true rfl, Nat.le_of_ble_eq_true rfl⟩ (Nat.le_of_ble_eq_true rfl) rfl dL_law_212 ?_
  refine Rt.aload_n 2 dL_law_215 rfl ?_
  obtain ⟨q4, e4, h⟩ := bnd h
  refine Rt.cV (mfX4_back _ q4 e4) lkL_22 ly17 rfl rfl rfl ⟨Nat.le_of_ble_eq_true rfl, Nat.le_of_ble_eq_true rfl⟩ (Nat.le_of_ble_eq_true rfl) rfl dL_law_216 ?_
  refine Rt.icmp_eq 1055 dL_law_219 (by decide) (fun c7 => ?_) (fun c7 => ?_)
  · replace h := (if_pos c7).symm.trans h
    exact wfL_law_b1055 X k18 hk18 v3 _ z h
  · replace h := (if_neg c7).symm.trans h
    refine Rt.iconst 0 dL_law_222 (by decide) ?_
    obtain rfl := Option.some.inj h
    exact Rt.ret (v := some (.int (0 : Int32))) dL_law_223 rfl rfl rfl
def fL_law_b224 (k18 : Int32 → Sto → Option (Int32 × Sto)) (X : Scr) (v3 : Int32) (σ : Sto) : Option (Int32 × Sto) := if inb (v3 + (1 : Int32)) X.1 = true then ((fX3_itch (X.2 ((v3 + (1 : Int32))).toNatClampNeg) σ).bind fun q5 => if inb (v3 + (1 : Int32)) X.1 = true then ((fX4_itch (X.2 ((v3 + (1 : Int32))).toNatClampNeg) q5.2).bind fun q6 => if q5.1 = q6.1 then (fL_law_b1055 k18 X v3 q6.2) else (some ((0 : Int32), q6.2))) else none) else none
set_option maxRecDepth 100000 in
set_option maxHeartbeats 4000000 in
theorem wfL_law_b224 (X : Scr) (k18 : Int32 → Sto → Option (Int32 × Sto)) (hk18 : ∀ (v3 : Int32) (σ : Sto) (z : Int32 × Sto), k18 v3 σ = some z → Rt X RL cL_law 4 room_1 .ireturn 18 [(0, .ref 30), (1, .ref 0), (2, .ref 17), (3, .int v3)] [] σ (some (.int z.1)) z.2) (v3 : Int32) (σ : Sto) (z : Int32 × Sto) (h : fL_law_b224 k18 X v3 σ = some z) : Rt X RL cL_law 4 room_1 .ireturn 224 [(0, .ref 30), (1, .ref 0), (2, .ref 17), (3, .int v3)] [] σ (some (.int z.1)) z.2 := by
  unfold fL_law_b224 at h
  refine Rt.aload_n 1 dL_law_224 rfl ?_
  refine Rt.aload_n 0 dL_law_225 rfl ?_
  refine Rt.iload_n 3 dL_law_226 rfl ?_
  refine Rt.iconst 1 dL_law_227 (by decide) ?_
  refine Rt.iadd dL_law_228 ?_
  obtain ⟨g8, h⟩ := gd h
  refine Rt.ialdX g8 dL_law_229 ?_
  obtain ⟨q5, e5, h⟩ := bnd h
  refine Rt.cV (mfX3_itch (X.2 ((v3 + (1 : Int32))).toNatClampNeg) _ q5 e5) lkL_23 ly0 rfl rfl rfl ⟨Nat.le_of_ble_eq_true rfl, Nat.le_of_ble_eq_true rfl⟩ (Nat.le_of_ble_eq_true rfl) rfl dL_law_230 ?_
  refine Rt.aload_n 2 dL_law_233 rfl ?_
  refine Rt.aload_n 0 dL_law_234 rfl ?_
  refine Rt.iload_n 3 dL_law_235 rfl ?_
  refine Rt.iconst 1 dL_law_236 (by decide) ?_
  refine Rt.iadd dL_law_237 ?_
  obtain ⟨g9, h⟩ := gd h
  refine Rt.ialdX g9 dL_law_238 ?_
  obtain ⟨q6, e6, h⟩ := bnd h
  refine Rt.cV (mfX4_itch (X.2 ((v3 + (1 : Int32))).toNatClampNeg) _ q6 e6) lkL_26 ly17 rfl rfl rfl ⟨Nat.le_of_ble_eq_true rfl, Nat.le_of_ble_eq_true rfl⟩ (Nat.le_of_ble_eq_true rfl) rfl dL_law_239 ?_
  refine Rt.icmp_eq 1055 dL_law_242 (by decide) (fun c10 => ?_) (fun c10 => ?_)
  · replace h := (if_pos c10).symm.trans h
    exact wfL_law_b1055 X k18 hk18 v3 _ z h
  · replace h := (if_neg c10).symm.trans h
    refine Rt.iconst 0 dL_law_245 (by decide) ?_
    obtain rfl := Option.some.inj h
    exact Rt.ret (v := some (.int (0 : Int32))) dL_law_246 rfl rfl rfl
def fL_law_b247 (k18 : Int32 → Sto → Option (Int32 × Sto)) (X : Scr) (v3 : Int32) (σ : Sto) : Option (Int32 × Sto) := if inb (v3 + (1 : Int32)) X.1 = true then ((fX3_sore (X.2 ((v3 + (1 : Int32))).toNatClampNeg) σ).bind fun q7 => if inb (v3 + (1 : Int32)) X.1 = true then ((fX4_sore (X.2 ((v3 + (1 : Int32))).toNatClampNeg) q7.2).bind fun q8 => if q7.1 = q8.1 then (fL_law_b1055 k18 X v3 q8.2) else (some ((0 : Int32), q8.2))) else none) else none
set_option maxRecDepth 100000 in
set_option maxHeartbeats 4000000 in
theorem wfL_law_b247 (X : Scr) (k18 : Int32 → Sto → Option (Int32 × Sto)) (hk18 : ∀ (v3 : Int32) (σ : Sto) (z : Int32 × Sto), k18 v3 σ = some z → Rt X RL cL_law 4 room_1 .ireturn 18 [(0, .ref 30), (1, .ref 0), (2, .ref 17), (3, .int v3)] [] σ (some (.int z.1)) z.2) (v3 : Int32) (σ : Sto) (z : Int32 × Sto) (h : fL_law_b247 k18 X v3 σ = some z) : Rt X RL cL_law 4 room_1 .ireturn 247 [(0, .ref 30), (1, .ref 0), (2, .ref 17), (3, .int v3)] [] σ (some (.int z.1)) z.2 := by
  unfold fL_law_b247 at h
  refine Rt.aload_n 1 dL_law_247 rfl ?_
  refine Rt.aload_n 0 dL_law_248 rfl ?_
  refine Rt.iload_n 3 dL_law_249 rfl ?_
  refine Rt.iconst 1 dL_law_250 (by decide) ?_
  refine Rt.iadd dL_law_251 ?_
  obtain ⟨g11, h⟩ := gd h
  refine Rt.ialdX g11 dL_law_252 ?_
  obtain ⟨q7, e7, h⟩ := bnd h
  refine Rt.cV (mfX3_sore (X.2 ((v3 + (1 : Int32))).toNatClampNeg) _ q7 e7) lkL_27 ly0 rfl rfl rfl ⟨Nat.le_of_ble_eq_true rfl, Nat.le_of_ble_eq_true rfl⟩ (Nat.le_of_ble_eq_true rfl) rfl dL_law_253 ?_
  refine Rt.aload_n 2 dL_law_256 rfl ?_
  refine Rt.aload_n 0 dL_law_257 rfl ?_
  refine Rt.iload_n 3 dL_law_258 rfl ?_
  refine Rt.iconst 1 dL_law_259 (by decide) ?_
  refine Rt.iadd dL_law_260 ?_
  obtain ⟨g12, h⟩ := gd h
  refine Rt.ialdX g12 dL_law_261 ?_
  obtain ⟨q8, e8, h⟩ := bnd h
  refine Rt.cV (mfX4_sore (X.2 ((v3 + (1 : Int32))).toNatClampNeg) _ q8 e8) lkL_30 ly17 rfl rfl rfl ⟨Nat.le_of_ble_eq_true rfl, Nat.le_of_ble_eq_true rfl⟩ (Nat.le_of_ble_eq_true rfl) rfl dL_law_262 ?_
  refine Rt.icmp_eq 1055 dL_law_265 (by decide) (fun c13 => ?_) (fun c13 => ?_)
  · replace h := (if_pos c13).symm.trans h
    exact wfL_law_b1055 X k18 hk18 v3 _ z h
  · replace h := (if_neg c13).symm.trans h
    refine Rt.iconst 0 dL_law_268 (by decide) ?_
    obtain rfl := Option.some.inj h
    exact Rt.ret (v := some (.int (0 : Int32))) dL_law_269 rfl rfl rfl
def fL_law_b270 (k18 : Int32 → Sto → Option (Int32 × Sto)) (X : Scr) (v3 : Int32) (σ : Sto) : Option (Int32 × Sto) := if inb (v3 + (1 : Int32)) X.1 = true then ((fX3_heal (X.2 ((v3 + (1 : Int32))).toNatClampNeg) σ).bind fun q9 => if inb (v3 + (1 : Int32)) X.1 = true then ((fX4_heal (X.2 ((v3 + (1 : Int32))).toNatClampNeg) q9.2).bind fun q10 => if q9.1 = q10.1 then (fL_law_b1055 k18 X v3 q10.2) else (some ((0 : Int32), q10.2))) else none) else none
set_option maxRecDepth 100000 in
set_option maxHeartbeats 4000000 in
theorem wfL_law_b270 (X : Scr) (k18 : Int32 → Sto → Option (Int32 × Sto)) (hk18 : ∀ (v3 : Int32) (σ : Sto) (z : Int32 × Sto), k18 v3 σ = some z → Rt X RL cL_law 4 room_1 .ireturn 18 [(0, .ref 30), (1, .ref 0), (2, .ref 17), (3, .int v3)] [] σ (some (.int z.1)) z.2) (v3 : Int32) (σ : Sto) (z : Int32 × Sto) (h : fL_law_b270 k18 X v3 σ = some z) : Rt X RL cL_law 4 room_1 .ireturn 270 [(0, .ref 30), (1, .ref 0), (2, .ref 17), (3, .int v3)] [] σ (some (.int z.1)) z.2 := by
  unfold fL_law_b270 at h
  refine Rt.aload_n 1 dL_law_270 rfl ?_
  refine Rt.aload_n 0 dL_law_271 rfl ?_
  refine Rt.iload_n 3 dL_law_272 rfl ?_
  refine Rt.iconst 1 dL_law_273 (by decide) ?_
  refine Rt.iadd dL_law_274 ?_
  obtain ⟨g14, h⟩ := gd h
  refine Rt.ialdX g14 dL_law_275 ?_
  obtain ⟨q9, e9, h⟩ := bnd h
  refine Rt.cV (mfX3_heal (X.2 ((v3 + (1 : Int32))).toNatClampNeg) _ q9 e9) lkL_31 ly0 rfl rfl rfl ⟨Nat.le_of_ble_eq_true rfl, Nat.le_of_ble_eq_true rfl⟩ (Nat.le_of_ble_eq_true rfl) rfl dL_law_276 ?_
  refine Rt.aload_n 2 dL_law_279 rfl ?_
  refine Rt.aload_n 0 dL_law_280 rfl ?_
  refine Rt.iload_n 3 dL_law_281 rfl ?_
  refine Rt.iconst 1 dL_law_282 (by decide) ?_
  refine Rt.iadd dL_law_283 ?_
  obtain ⟨g15, h⟩ := gd h
  refine Rt.ialdX g15 dL_law_284 ?_
  obtain ⟨q10, e10, h⟩ := bnd h
  refine Rt.cV (mfX4_heal (X.2 ((v3 + (1 : Int32))).toNatClampNeg) _ q10 e10) lkL_34 ly17 rfl rfl rfl ⟨Nat.le_of_ble_eq_true rfl, Nat.le_of_ble_eq_true rfl⟩ (Nat.le_of_ble_eq_true rfl) rfl dL_law_285 ?_
  refine Rt.icmp_eq 1055 dL_law_288 (by decide) (fun c16 => ?_) (fun c16 => ?_)
  · replace h := (if_pos c16).symm.trans h
    exact wfL_law_b1055 X k18 hk18 v3 _ z h
  · replace h := (if_neg c16).symm.trans h
    refine Rt.iconst 0 dL_law_291 (by decide) ?_
    obtain rfl := Option.some.inj h
    exact Rt.ret (v := some (.int (0 : Int32))) dL_law_292 rfl rfl rfl
def fL_law_b293 (k18 : Int32 → Sto → Option (Int32 × Sto)) (X : Scr) (v3 : Int32) (σ : Sto) : Option (Int32 × Sto) := if inb (v3 + (1 : Int32)) X.1 = true then (if inb (v3 + (2 : Int32)) X.1 = true then ((fX3_he (X.2 ((v3 + (1 : Int32))).toNatClampNeg) (X.2 ((v3 + (2 : Int32))).toNatClampNeg) σ).bind fun q11 => if inb (v3 + (1 : Int32)) X.1 = true then (if inb (v3 + (2 : Int32)) X.1 = true then ((fX4_he (X.2 ((v3 + (1 : Int32))).toNatClampNeg) (X.2 ((v3 + (2 : Int32))).toNatClampNeg) q11.2).bind fun q12 => if q11.1 = q12.1 then (fL_law_b1055 k18 X v3 q12.2) else (some ((0 : Int32), q12.2))) else none) else none) else none) else none
set_option maxRecDepth 100000 in
set_option maxHeartbeats 4000000 in
theorem wfL_law_b293 (X : Scr) (k18 : Int32 → Sto → Option (Int32 × Sto)) (hk18 : ∀ (v3 : Int32) (σ : Sto) (z : Int32 × Sto), k18 v3 σ = some z → Rt X RL cL_law 4 room_1 .ireturn 18 [(0, .ref 30), (1, .ref 0), (2, .ref 17), (3, .int v3)] [] σ (some (.int z.1)) z.2) (v3 : Int32) (σ : Sto) (z : Int32 × Sto) (h : fL_law_b293 k18 X v3 σ = some z) : Rt X RL cL_law 4 room_1 .ireturn 293 [(0, .ref 30), (1, .ref 0), (2, .ref 17), (3, .int v3)] [] σ (some (.int z.1)) z.2 := by
  unfold fL_law_b293 at h
  refine Rt.aload_n 1 dL_law_293 rfl ?_
  refine Rt.aload_n 0 dL_law_294 rfl ?_
  refine Rt.iload_n 3 dL_law_295 rfl ?_
  refine Rt.iconst 1 dL_law_296 (by decide) ?_
  refine Rt.iadd dL_law_297 ?_
  obtain ⟨g17, h⟩ := gd h
  refine Rt.ialdX g17 dL_law_298 ?_
  refine Rt.aload_n 0 dL_law_299 rfl ?_
  refine Rt.iload_n 3 dL_law_300 rfl ?_
  refine Rt.iconst 2 dL_law_301 (by decide) ?_
  refine Rt.iadd dL_law_302 ?_
  obtain ⟨g18, h⟩ := gd h
  refine Rt.ialdX g18 dL_law_303 ?_
  obtain ⟨q11, e11, h⟩ := bnd h
  refine Rt.cV (mfX3_he (X.2 ((v3 + (1 : Int32))).toNatClampNeg) (X.2 ((v3 + (2 : Int32))).toNatClampNeg) _ q11 e11) lkL_35 ly0 rfl rfl rfl ⟨Nat.le_of_ble_eq_true rfl, Nat.le_of_ble_eq_true rfl⟩ (Nat.le_of_ble_eq_true rfl) rfl dL_law_304 ?_
  refine Rt.aload_n 2 dL_law_307 rfl ?_
  refine Rt.aload_n 0 dL_law_308 rfl ?_
  refine Rt.iload_n 3 dL_law_309 rfl ?_
  refine Rt.iconst 1 dL_law_310 (by decide) ?_
  refine Rt.iadd dL_law_311 ?_
  obtain ⟨g19, h⟩ := gd h
  refine Rt.ialdX g19 dL_law_312 ?_
  refine Rt.aload_n 0 dL_law_313 rfl ?_
  refine Rt.iload_n 3 dL_law_314 rfl ?_
  refine Rt.iconst 2 dL_law_315 (by decide) ?_
  refine Rt.iadd dL_law_316 ?_
  obtain ⟨g20, h⟩ := gd h
  refine Rt.ialdX g20 dL_law_317 ?_
  obtain ⟨q12, e12, h⟩ := bnd h
  refine Rt.cV (mfX4_he (X.2 ((v3 + (1 : Int32))).toNatClampNeg) (X.2 ((v3 + (2 : Int32))).toNatClampNeg) _ q12 e12) lkL_39 ly17 rfl rfl rfl ⟨Nat.le_of_ble_eq_true rfl, Nat.le_of_ble_eq_true rfl⟩ (Nat.le_of_ble_eq_true rfl) rfl dL_law_318 ?_
  refine Rt.icmp_eq 1055 dL_law_321 (by decide) (fun c21 => ?_) (fun c21 => ?_)
  · replace h := (if_pos c21).symm.trans h
    exact wfL_law_b1055 X k18 hk18 v3 _ z h
  · replace h := (if_neg c21).symm.trans h
    refine Rt.iconst 0 dL_law_324 (by decide) ?_
    obtain rfl := Option.some.inj h
    exact Rt.ret (v := some (.int (0 : Int32))) dL_law_325 rfl rfl rfl
def fL_law_b326 (k18 : Int32 → Sto → Option (Int32 × Sto)) (X : Scr) (v3 : Int32) (σ : Sto) : Option (Int32 × Sto) := if inb (v3 + (1 : Int32)) X.1 = true then ((fX3_stroke (X.2 ((v3 + (1 : Int32))).toNatClampNeg) σ).bind fun q13 => if inb (v3 + (1 : Int32)) X.1 = true then ((fX4_stroke (X.2 ((v3 + (1 : Int32))).toNatClampNeg) q13.2).bind fun q14 => if q13.1 = q14.1 then (fL_law_b1055 k18 X v3 q14.2) else (some ((0 : Int32), q14.2))) else none) else none
set_option maxRecDepth 100000 in
set_option maxHeartbeats 4000000 in
theorem wfL_law_b326 (X : Scr) (k18 : Int32 → Sto → Option (Int32 × Sto)) (hk18 : ∀ (v3 : Int32) (σ : Sto) (z : Int32 × Sto), k18 v3 σ = some z → Rt X RL cL_law 4 room_1 .ireturn 18 [(0, .ref 30), (1, .ref 0), (2, .ref 17), (3, .int v3)] [] σ (some (.int z.1)) z.2) (v3 : Int32) (σ : Sto) (z : Int32 × Sto) (h : fL_law_b326 k18 X v3 σ = some z) : Rt X RL cL_law 4 room_1 .ireturn 326 [(0, .ref 30), (1, .ref 0), (2, .ref 17), (3, .int v3)] [] σ (some (.int z.1)) z.2 := by
  unfold fL_law_b326 at h
  refine Rt.aload_n 1 dL_law_326 rfl ?_
  refine Rt.aload_n 0 dL_law_327 rfl ?_
  refine Rt.iload_n 3 dL_law_328 rfl ?_
  refine Rt.iconst 1 dL_law_329 (by decide) ?_
  refine Rt.iadd dL_law_330 ?_
  obtain ⟨g22, h⟩ := gd h
  refine Rt.ialdX g22 dL_law_331 ?_
  obtain ⟨q13, e13, h⟩ := bnd h
  refine Rt.cV (mfX3_stroke (X.2 ((v3 + (1 : Int32))).toNatClampNeg) _ q13 e13) lkL_40 ly0 rfl rfl rfl ⟨Nat.le_of_ble_eq_true rfl, Nat.le_of_ble_eq_true rfl⟩ (Nat.le_of_ble_eq_true rfl) rfl dL_law_332 ?_
  refine Rt.aload_n 2 dL_law_335 rfl ?_
  refine Rt.aload_n 0 dL_law_336 rfl ?_
  refine Rt.iload_n 3 dL_law_337 rfl ?_
  refine Rt.iconst 1 dL_law_338 (by decide) ?_
  refine Rt.iadd dL_law_339 ?_
  obtain ⟨g23, h⟩ := gd h
  refine Rt.ialdX g23 dL_law_340 ?_
  obtain ⟨q14, e14, h⟩ := bnd h
  refine Rt.cV (mfX4_stroke (X.2 ((v3 + (1 : Int32))).toNatClampNeg) _ q14 e14) lkL_43 ly17 rfl rfl rfl ⟨Nat.le_of_ble_eq_true rfl, Nat.le_of_ble_eq_true rfl⟩ (Nat.le_of_ble_eq_true rfl) rfl dL_law_341 ?_
  refine Rt.icmp_eq 1055 dL_law_344 (by decide) (fun c24 => ?_) (fun c24 => ?_)
  · replace h := (if_pos c24).symm.trans h
    exact wfL_law_b1055 X k18 hk18 v3 _ z h
  · replace h := (if_neg c24).symm.trans h
    refine Rt.iconst 0 dL_law_347 (by decide) ?_
    obtain rfl := Option.some.inj h
    exact Rt.ret (v := some (.int (0 : Int32))) dL_law_348 rfl rfl rfl
def fL_law_b349 (k18 : Int32 → Sto → Option (Int32 × Sto)) (X : Scr) (v3 : Int32) (σ : Sto) : Option (Int32 × Sto) := if inb (v3 + (1 : Int32)) X.1 = true then (if inb (v3 + (2 : Int32)) X.1 = true then ((fX3_far (X.2 ((v3 + (1 : Int32))).toNatClampNeg) (X.2 ((v3 + (2 : Int32))).toNatClampNeg) σ).bind fun q15 => if inb (v3 + (1 : Int32)) X.1 = true then (if inb (v3 + (2 : Int32)) X.1 = true then ((fX4_far (X.2 ((v3 + (1 : Int32))).toNatClampNeg) (X.2 ((v3 + (2 : Int32))).toNatClampNeg) q15.2).bind fun q16 => if q15.1 = q16.1 then (fL_law_b1055 k18 X v3 q16.2) else (some ((0 : Int32), q16.2))) else none) else none) else none) else none
set_option maxRecDepth 100000 in
set_option maxHeartbeats 4000000 in
theorem wfL_law_b349 (X : Scr) (k18 : Int32 → Sto → Option (Int32 × Sto)) (hk18 : ∀ (v3 : Int32) (σ : Sto) (z : Int32 × Sto), k18 v3 σ = some z → Rt X RL cL_law 4 room_1 .ireturn 18 [(0, .ref 30), (1, .ref 0), (2, .ref 17), (3, .int v3)] [] σ (some (.int z.1)) z.2) (v3 : Int32) (σ : Sto) (z : Int32 × Sto) (h : fL_law_b349 k18 X v3 σ = some z) : Rt X RL cL_law 4 room_1 .ireturn 349 [(0, .ref 30), (1, .ref 0), (2, .ref 17), (3, .int v3)] [] σ (some (.int z.1)) z.2 := by
  unfold fL_law_b349 at h
  refine Rt.aload_n 1 dL_law_349 rfl ?_
  refine Rt.aload_n 0 dL_law_350 rfl ?_
  refine Rt.iload_n 3 dL_law_351 rfl ?_
  refine Rt.iconst 1 dL_law_352 (by decide) ?_
  refine Rt.iadd dL_law_353 ?_
  obtain ⟨g25, h⟩ := gd h
  refine Rt.ialdX g25 dL_law_354 ?_
  refine Rt.aload_n 0 dL_law_355 rfl ?_
  refine Rt.iload_n 3 dL_law_356 rfl ?_
  refine Rt.iconst 2 dL_law_357 (by decide) ?_
  refine Rt.iadd dL_law_358 ?_
  obtain ⟨g26, h⟩ := gd h
  refine Rt.ialdX g26 dL_law_359 ?_
  obtain ⟨q15, e15, h⟩ := bnd h
  refine Rt.cV (mfX3_far (X.2 ((v3 + (1 : Int32))).toNatClampNeg) (X.2 ((v3 + (2 : Int32))).toNatClampNeg) _ q15 e15) lkL_44 ly0 rfl rfl rfl ⟨Nat.le_of_ble_eq_true rfl, Nat.le_of_ble_eq_true rfl⟩ (Nat.le_of_ble_eq_true rfl) rfl dL_law_360 ?_
  refine Rt.aload_n 2 dL_law_363 rfl ?_
  refine Rt.aload_n 0 dL_law_364 rfl ?_
  refine Rt.iload_n 3 dL_law_365 rfl ?_
  refine Rt.iconst 1 dL_law_366 (by decide) ?_
  refine Rt.iadd dL_law_367 ?_
  obtain ⟨g27, h⟩ := gd h
  refine Rt.ialdX g27 dL_law_368 ?_
  refine Rt.aload_n 0 dL_law_369 rfl ?_
  refine Rt.iload_n 3 dL_law_370 rfl ?_
  refine Rt.iconst 2 dL_law_371 (by decide) ?_
  refine Rt.iadd dL_law_372 ?_
  obtain ⟨g28, h⟩ := gd h
  refine Rt.ialdX g28 dL_law_373 ?_
  obtain ⟨q16, e16, h⟩ := bnd h
  refine Rt.cV (mfX4_far (X.2 ((v3 + (1 : Int32))).toNatClampNeg) (X.2 ((v3 + (2 : Int32))).toNatClampNeg) _ q16 e16) lkL_47 ly17 rfl rfl rfl ⟨Nat.le_of_ble_eq_true rfl, Nat.le_of_ble_eq_true rfl⟩ (Nat.le_of_ble_eq_true rfl) rfl dL_law_374 ?_
  refine Rt.icmp_eq 1055 dL_law_377 (by decide) (fun c29 => ?_) (fun c29 => ?_)
  · replace h := (if_pos c29).symm.trans h
    exact wfL_law_b1055 X k18 hk18 v3 _ z h
  · replace h := (if_neg c29).symm.trans h
    refine Rt.iconst 0 dL_law_380 (by decide) ?_
    obtain rfl := Option.some.inj h
    exact Rt.ret (v := some (.int (0 : Int32))) dL_law_381 rfl rfl rfl
def fL_law_b382 (k18 : Int32 → Sto → Option (Int32 × Sto)) (X : Scr) (v3 : Int32) (σ : Sto) : Option (Int32 × Sto) := (fX3_say σ).bind fun q17 => (fX4_say q17.2).bind fun q18 => if q17.1 = q18.1 then (fL_law_b1055 k18 X v3 q18.2) else (some ((0 : Int32), q18.2))
set_option maxRecDepth 100000 in
set_option maxHeartbeats 4000000 in
theorem wfL_law_b382 (X : Scr) (k18 : Int32 → Sto → Option (Int32 × Sto)) (hk18 : ∀ (v3 : Int32) (σ : Sto) (z : Int32 × Sto), k18 v3 σ = some z → Rt X RL cL_law 4 room_1 .ireturn 18 [(0, .ref 30), (1, .ref 0), (2, .ref 17), (3, .int v3)] [] σ (some (.int z.1)) z.2) (v3 : Int32) (σ : Sto) (z : Int32 × Sto) (h : fL_law_b382 k18 X v3 σ = some z) : Rt X RL cL_law 4 room_1 .ireturn 382 [(0, .ref 30), (1, .ref 0), (2, .ref 17), (3, .int v3)] [] σ (some (.int z.1)) z.2 := by
  unfold fL_law_b382 at h
  refine Rt.aload_n 1 dL_law_382 rfl ?_
  obtain ⟨q17, e17, h⟩ := bnd h
  refine Rt.cV (mfX3_say _ q17 e17) lkL_48 ly0 rfl rfl rfl ⟨Nat.le_of_ble_eq_true rfl, Nat.le_of_ble_eq_true rfl⟩ (Nat.le_of_ble_eq_true rfl) rfl dL_law_383 ?_
  refine Rt.aload_n 2 dL_law_386 rfl ?_
  obtain ⟨q18, e18, h⟩ := bnd h
  refine Rt.cV (mfX4_say _ q18 e18) lkL_51 ly17 rfl rfl rfl ⟨Nat.le_of_ble_eq_true rfl, Nat.le_of_ble_eq_true rfl⟩ (Nat.le_of_ble_eq_true rfl) rfl dL_law_387 ?_
  refine Rt.icmp_eq 1055 dL_law_390 (by decide) (fun c30 => ?_) (fun c30 => ?_)
  · replace h := (if_pos c30).symm.trans h
    exact wfL_law_b1055 X k18 hk18 v3 _ z h
  · replace h := (if_neg c30).symm.trans h
    refine Rt.iconst 0 dL_law_393 (by decide) ?_
    obtain rfl := Option.some.inj h
    exact Rt.ret (v := some (.int (0 : Int32))) dL_law_394 rfl rfl rfl
def fL_law_b395 (k18 : Int32 → Sto → Option (Int32 × Sto)) (X : Scr) (v3 : Int32) (σ : Sto) : Option (Int32 × Sto) := if inb (v3 + (1 : Int32)) X.1 = true then (if inb (v3 + (2 : Int32)) X.1 = true then ((fX3_word (X.2 ((v3 + (1 : Int32))).toNatClampNeg) (X.2 ((v3 + (2 : Int32))).toNatClampNeg) σ).bind fun q19 => if inb (v3 + (1 : Int32)) X.1 = true then (if inb (v3 + (2 : Int32)) X.1 = true then ((fX4_word (X.2 ((v3 + (1 : Int32))).toNatClampNeg) (X.2 ((v3 + (2 : Int32))).toNatClampNeg) q19.2).bind fun q20 => if q19.1 = q20.1 then (fL_law_b1055 k18 X v3 q20.2) else (some ((0 : Int32), q20.2))) else none) else none) else none) else none
set_option maxRecDepth 100000 in
set_option maxHeartbeats 4000000 in
theorem wfL_law_b395 (X : Scr) (k18 : Int32 → Sto → Option (Int32 × Sto)) (hk18 : ∀ (v3 : Int32) (σ : Sto) (z : Int32 × Sto), k18 v3 σ = some z → Rt X RL cL_law 4 room_1 .ireturn 18 [(0, .ref 30), (1, .ref 0), (2, .ref 17), (3, .int v3)] [] σ (some (.int z.1)) z.2) (v3 : Int32) (σ : Sto) (z : Int32 × Sto) (h : fL_law_b395 k18 X v3 σ = some z) : Rt X RL cL_law 4 room_1 .ireturn 395 [(0, .ref 30), (1, .ref 0), (2, .ref 17), (3, .int v3)] [] σ (some (.int z.1)) z.2 := by
  unfold fL_law_b395 at h
  refine Rt.aload_n 1 dL_law_395 rfl ?_
  refine Rt.aload_n 0 dL_law_396 rfl ?_
  refine Rt.iload_n 3 dL_law_397 rfl ?_
  refine Rt.iconst 1 dL_law_398 (by decide) ?_
  refine Rt.iadd dL_law_399 ?_
  obtain ⟨g31, h⟩ := gd h
  refine Rt.ialdX g31 dL_law_400 ?_
  refine Rt.aload_n 0 dL_law_401 rfl ?_
  refine Rt.iload_n 3 dL_law_402 rfl ?_
  refine Rt.iconst 2 dL_law_403 (by decide) ?_
  refine Rt.iadd dL_law_404 ?_
  obtain ⟨g32, h⟩ := gd h
  refine Rt.ialdX g32 dL_law_405 ?_
  obtain ⟨q19, e19, h⟩ := bnd h
  refine Rt.cV (mfX3_word (X.2 ((v3 + (1 : Int32))).toNatClampNeg) (X.2 ((v3 + (2 : Int32))).toNatClampNeg) _ q19 e19) lkL_52 ly0 rfl rfl rfl ⟨Nat.le_of_ble_eq_true rfl, Nat.le_of_ble_eq_true rfl⟩ (Nat.le_of_ble_eq_true rfl) rfl dL_law_406 ?_
  refine Rt.aload_n 2 dL_law_409 rfl ?_
  refine Rt.aload_n 0 dL_law_410 rfl ?_
  refine Rt.iload_n 3 dL_law_411 rfl ?_
  refine Rt.iconst 1 dL_law_412 (by decide) ?_
  refine Rt.iadd dL_law_413 ?_
  obtain ⟨g33, h⟩ := gd h
  refine Rt.ialdX g33 dL_law_414 ?_
  refine Rt.aload_n 0 dL_law_415 rfl ?_
  refine Rt.iload_n 3 dL_law_416 rfl ?_
  refine Rt.iconst 2 dL_law_417 (by decide) ?_
  refine Rt.iadd dL_law_418 ?_
  obtain ⟨g34, h⟩ := gd h
  refine Rt.ialdX g34 dL_law_419 ?_
  obtain ⟨q20, e20, h⟩ := bnd h
  refine Rt.cV (mfX4_word (X.2 ((v3 + (1 : Int32))).toNatClampNeg) (X.2 ((v3 + (2 : Int32))).toNatClampNeg) _ q20 e20) lkL_55 ly17 rfl rfl rfl ⟨Nat.le_of_ble_eq_true rfl, Nat.le_of_ble_eq_true rfl⟩ (Nat.le_of_ble_eq_true rfl) rfl dL_law_420 ?_
  refine Rt.icmp_eq 1055 dL_law_423 (by decide) (fun c35 => ?_) (fun c35 => ?_)
  · replace h := (if_pos c35).symm.trans h
    exact wfL_law_b1055 X k18 hk18 v3 _ z h
  · replace h := (if_neg c35).symm.trans h
    refine Rt.iconst 0 dL_law_426 (by decide) ?_
    obtain rfl := Option.some.inj h
    exact Rt.ret (v := some (.int (0 : Int32))) dL_law_427 rfl rfl rfl
def fL_law_b428 (k18 : Int32 → Sto → Option (Int32 × Sto)) (X : Scr) (v3 : Int32) (σ : Sto) : Option (Int32 × Sto) := if inb (v3 + (1 : Int32)) X.1 = true then (if inb (v3 + (2 : Int32)) X.1 = true then ((fX3_behind (X.2 ((v3 + (1 : Int32))).toNatClampNeg) (X.2 ((v3 + (2 : Int32))).toNatClampNeg) σ).bind fun q21 => if inb (v3 + (1 : Int32)) X.1 = true then (if inb (v3 + (2 : Int32)) X.1 = true then ((fX4_behind (X.2 ((v3 + (1 : Int32))).toNatClampNeg) (X.2 ((v3 + (2 : Int32))).toNatClampNeg) q21.2).bind fun q22 => if q21.1 = q22.1 then (fL_law_b1055 k18 X v3 q22.2) else (some ((0 : Int32), q22.2))) else none) else none) else none) else none
set_option maxRecDepth 100000 in
set_option maxHeartbeats 4000000 in
theorem wfL_law_b428 (X : Scr) (k18 : Int32 → Sto → Option (Int32 × Sto)) (hk18 : ∀ (v3 : Int32) (σ : Sto) (z : Int32 × Sto), k18 v3 σ = some z → Rt X RL cL_law 4 room_1 .ireturn 18 [(0, .ref 30), (1, .ref 0), (2, .ref 17), (3, .int v3)] [] σ (some (.int z.1)) z.2) (v3 : Int32) (σ : Sto) (z : Int32 × Sto) (h : fL_law_b428 k18 X v3 σ = some z) : Rt X RL cL_law 4 room_1 .ireturn 428 [(0, .ref 30), (1, .ref 0), (2, .ref 17), (3, .int v3)] [] σ (some (.int z.1)) z.2 := by
  unfold fL_law_b428 at h
  refine Rt.aload_n 1 dL_law_428 rfl ?_
  refine Rt.aload_n 0 dL_law_429 rfl ?_
  refine Rt.iload_n 3 dL_law_430 rfl ?_
  refine Rt.iconst 1 dL_law_431 (by decide) ?_
  refine Rt.iadd dL_law_432 ?_
  obtain ⟨g36, h⟩ := gd h
  refine Rt.ialdX g36 dL_law_433 ?_
  refine Rt.aload_n 0 dL_law_434 rfl ?_
  refine Rt.iload_n 3 dL_law_435 rfl ?_
  refine Rt.iconst 2 dL_law_436 (by decide) ?_
  refine Rt.iadd dL_law_437 ?_
  obtain ⟨g37, h⟩ := gd h
  refine Rt.ialdX g37 dL_law_438 ?_
  obtain ⟨q21, e21, h⟩ := bnd h
  refine Rt.cV (mfX3_behind (X.2 ((v3 + (1 : Int32))).toNatClampNeg) (X.2 ((v3 + (2 : Int32))).toNatClampNeg) _ q21 e21) lkL_56 ly0 rfl rfl rfl ⟨Nat.le_of_ble_eq_true rfl, Nat.le_of_ble_eq_true rfl⟩ (Nat.le_of_ble_eq_true rfl) rfl dL_law_439 ?_
  refine Rt.aload_n 2 dL_law_442 rfl ?_
  refine Rt.aload_n 0 dL_law_443 rfl ?_
  refine Rt.iload_n 3 dL_law_444 rfl ?_
  refine Rt.iconst 1 dL_law_445 (by decide) ?_
  refine Rt.iadd dL_law_446 ?_
  obtain ⟨g38, h⟩ := gd h
  refine Rt.ialdX g38 dL_law_447 ?_
  refine Rt.aload_n 0 dL_law_448 rfl ?_
  refine Rt.iload_n 3 dL_law_449 rfl ?_
  refine Rt.iconst 2 dL_law_450 (by decide) ?_
  refine Rt.iadd dL_law_451 ?_
  obtain ⟨g39, h⟩ := gd h
  refine Rt.ialdX g39 dL_law_452 ?_
  obtain ⟨q22, e22, h⟩ := bnd h
  refine Rt.cV (mfX4_behind (X.2 ((v3 + (1 : Int32))).toNatClampNeg) (X.2 ((v3 + (2 : Int32))).toNatClampNeg) _ q22 e22) lkL_59 ly17 rfl rfl rfl ⟨Nat.le_of_ble_eq_true rfl, Nat.le_of_ble_eq_true rfl⟩ (Nat.le_of_ble_eq_true rfl) rfl dL_law_453 ?_
  refine Rt.icmp_eq 1055 dL_law_456 (by decide) (fun c40 => ?_) (fun c40 => ?_)
  · replace h := (if_pos c40).symm.trans h
    exact wfL_law_b1055 X k18 hk18 v3 _ z h
  · replace h := (if_neg c40).symm.trans h
    refine Rt.iconst 0 dL_law_459 (by decide) ?_
    obtain rfl := Option.some.inj h
    exact Rt.ret (v := some (.int (0 : Int32))) dL_law_460 rfl rfl rfl
def fL_law_b461 (k18 : Int32 → Sto → Option (Int32 × Sto)) (X : Scr) (v3 : Int32) (σ : Sto) : Option (Int32 × Sto) := if inb (v3 + (1 : Int32)) X.1 = true then (if inb (v3 + (2 : Int32)) X.1 = true then (if inb (v3 + (3 : Int32)) X.1 = true then ((fX3_reads (X.2 ((v3 + (1 : Int32))).toNatClampNeg) (X.2 ((v3 + (2 : Int32))).toNatClampNeg) (X.2 ((v3 + (3 : Int32))).toNatClampNeg) σ).bind fun q23 => if inb (v3 + (1 : Int32)) X.1 = true then (if inb (v3 + (2 : Int32)) X.1 = true then (if inb (v3 + (3 : Int32)) X.1 = true then ((fX4_reads (X.2 ((v3 + (1 : Int32))).toNatClampNeg) (X.2 ((v3 + (2 : Int32))).toNatClampNeg) (X.2 ((v3 + (3 : Int32))).toNatClampNeg) q23.2).bind fun q24 => if q23.1 = q24.1 then (fL_law_b1055 k18 X v3 q24.2) else (some ((0 : Int32), q24.2))) else none) else none) else none) else none) else none) else none
set_option maxRecDepth 100000 in
set_option maxHeartbeats 4000000 in
theorem wfL_law_b461 (X : Scr) (k18 : Int32 → Sto → Option (Int32 × Sto)) (hk18 : ∀ (v3 : Int32) (σ : Sto) (z : Int32 × Sto), k18 v3 σ = some z → Rt X RL cL_law 4 room_1 .ireturn 18 [(0, .ref 30), (1, .ref 0), (2, .ref 17), (3, .int v3)] [] σ (some (.int z.1)) z.2) (v3 : Int32) (σ : Sto) (z : Int32 × Sto) (h : fL_law_b461 k18 X v3 σ = some z) : Rt X RL cL_law 4 room_1 .ireturn 461 [(0, .ref 30), (1, .ref 0), (2, .ref 17), (3, .int v3)] [] σ (some (.int z.1)) z.2 := by
  unfold fL_law_b461 at h
  refine Rt.aload_n 1 dL_law_461 rfl ?_
  refine Rt.aload_n 0 dL_law_462 rfl ?_
  refine Rt.iload_n 3 dL_law_463 rfl ?_
  refine Rt.iconst 1 dL_law_464 (by decide) ?_
  refine Rt.iadd dL_law_465 ?_
  obtain ⟨g41, h⟩ := gd h
  refine Rt.ialdX g41 dL_law_466 ?_
  refine Rt.aload_n 0 dL_law_467 rfl ?_
  refine Rt.iload_n 3 dL_law_468 rfl ?_
  refine Rt.iconst 2 dL_law_469 (by decide) ?_
  refine Rt.iadd dL_law_470 ?_
  obtain ⟨g42, h⟩ := gd h
  refine Rt.ialdX g42 dL_law_471 ?_
  refine Rt.aload_n 0 dL_law_472 rfl ?_
  refine Rt.iload_n 3 dL_law_473 rfl ?_
  refine Rt.iconst 3 dL_law_474 (by decide) ?_
  refine Rt.iadd dL_law_475 ?_
  obtain ⟨g43, h⟩ := gd h
  refine Rt.ialdX g43 dL_law_476 ?_
  obtain ⟨q23, e23, h⟩ := bnd h
  refine Rt.cV (mfX3_reads (X.2 ((v3 + (1 : Int32))).toNatClampNeg) (X.2 ((v3 + (2 : Int32))).toNatClampNeg) (X.2 ((v3 + (3 : Int32))).toNatClampNeg) _ q23 e23) lkL_60 ly0 rfl rfl rfl ⟨Nat.le_of_ble_eq_true rfl, Nat.le_of_ble_eq_true rfl⟩ (Nat.le_of_ble_eq_true rfl) rfl dL_law_477 ?_
  refine Rt.aload_n 2 dL_law_480 rfl ?_
  refine Rt.aload_n 0 dL_law_481 rfl ?_
  refine Rt.iload_n 3 dL_law_482 rfl ?_
  refine Rt.iconst 1 dL_law_483 (by decide) ?_
  refine Rt.iadd dL_law_484 ?_
  obtain ⟨g44, h⟩ := gd h
  refine Rt.ialdX g44 dL_law_485 ?_
  refine Rt.aload_n 0 dL_law_486 rfl ?_
  refine Rt.iload_n 3 dL_law_487 rfl ?_
  refine Rt.iconst 2 dL_law_488 (by decide) ?_
  refine Rt.iadd dL_law_489 ?_
  obtain ⟨g45, h⟩ := gd h
  refine Rt.ialdX g45 dL_law_490 ?_
  refine Rt.aload_n 0 dL_law_491 rfl ?_
  refine Rt.iload_n 3 dL_law_492 rfl ?_
  refine Rt.iconst 3 dL_law_493 (by decide) ?_
  refine Rt.iadd dL_law_494 ?_
  obtain ⟨g46, h⟩ := gd h
  refine Rt.ialdX g46 dL_law_495 ?_
  obtain ⟨q24, e24, h⟩ := bnd h
  refine Rt.cV (mfX4_reads (X.2 ((v3 + (1 : Int32))).toNatClampNeg) (X.2 ((v3 + (2 : Int32))).toNatClampNeg) (X.2 ((v3 + (3 : Int32))).toNatClampNeg) _ q24 e24) lkL_64 ly17 rfl rfl rfl ⟨Nat.le_of_ble_eq_true rfl, Nat.le_of_ble_eq_true rfl⟩ (Nat.le_of_ble_eq_true rfl) rfl dL_law_496 ?_
  refine Rt.icmp_eq 1055 dL_law_499 (by decide) (fun c47 => ?_) (fun c47 => ?_)
  · replace h := (if_pos c47).symm.trans h
    exact wfL_law_b1055 X k18 hk18 v3 _ z h
  · replace h := (if_neg c47).symm.trans h
    refine Rt.iconst 0 dL_law_502 (by decide) ?_
    obtain rfl := Option.some.inj h
    exact Rt.ret (v := some (.int (0 : Int32))) dL_law_503 rfl rfl rfl
def fL_law_b504 (k18 : Int32 → Sto → Option (Int32 × Sto)) (X : Scr) (v3 : Int32) (σ : Sto) : Option (Int32 × Sto) := if inb (v3 + (1 : Int32)) X.1 = true then ((fX3_follow (X.2 ((v3 + (1 : Int32))).toNatClampNeg) σ).bind fun q25 => if inb (v3 + (1 : Int32)) X.1 = true then ((fX4_follow (X.2 ((v3 + (1 : Int32))).toNatClampNeg) q25.2).bind fun q26 => if q25.1 = q26.1 then (fL_law_b1055 k18 X v3 q26.2) else (some ((0 : Int32), q26.2))) else none) else none
set_option maxRecDepth 100000 in
set_option maxHeartbeats 4000000 in
theorem wfL_law_b504 (X : Scr) (k18 : Int32 → Sto → Option (Int32 × Sto)) (hk18 : ∀ (v3 : Int32) (σ : Sto) (z : Int32 × Sto), k18 v3 σ = some z → Rt X RL cL_law 4 room_1 .ireturn 18 [(0, .ref 30), (1, .ref 0), (2, .ref 17), (3, .int v3)] [] σ (some (.int z.1)) z.2) (v3 : Int32) (σ : Sto) (z : Int32 × Sto) (h : fL_law_b504 k18 X v3 σ = some z) : Rt X RL cL_law 4 room_1 .ireturn 504 [(0, .ref 30), (1, .ref 0), (2, .ref 17), (3, .int v3)] [] σ (some (.int z.1)) z.2 := by
  unfold fL_law_b504 at h
  refine Rt.aload_n 1 dL_law_504 rfl ?_
  refine Rt.aload_n 0 dL_law_505 rfl ?_
  refine Rt.iload_n 3 dL_law_506 rfl ?_
  refine Rt.iconst 1 dL_law_507 (by decide) ?_
  refine Rt.iadd dL_law_508 ?_
  obtain ⟨g48, h⟩ := gd h
  refine Rt.ialdX g48 dL_law_509 ?_
  obtain ⟨q25, e25, h⟩ := bnd h
  refine Rt.cV (mfX3_follow (X.2 ((v3 + (1 : Int32))).toNatClampNeg) _ q25 e25) lkL_65 ly0 rfl rfl rfl ⟨Nat.le_of_ble_eq_true rfl, Nat.le_of_ble_eq_true rfl⟩ (Nat.le_of_ble_eq_true rfl) rfl dL_law_510 ?_
  refine Rt.aload_n 2 dL_law_513 rfl ?_
  refine Rt.aload_n 0 dL_law_514 rfl ?_
  refine Rt.iload_n 3 dL_law_515 rfl ?_
  refine Rt.iconst 1 dL_law_516 (by decide) ?_
  refine Rt.iadd dL_law_517 ?_
  obtain ⟨g49, h⟩ := gd h
  refine Rt.ialdX g49 dL_law_518 ?_
  obtain ⟨q26, e26, h⟩ := bnd h
  refine Rt.cV (mfX4_follow (X.2 ((v3 + (1 : Int32))).toNatClampNeg) _ q26 e26) lkL_68 ly17 rfl rfl rfl ⟨Nat.le_of_ble_eq_true rfl, Nat.le_of_ble_eq_true rfl⟩ (Nat.le_of_ble_eq_true rfl) rfl dL_law_519 ?_
  refine Rt.icmp_eq 1055 dL_law_522 (by decide) (fun c50 => ?_) (fun c50 => ?_)
  · replace h := (if_pos c50).symm.trans h
    exact wfL_law_b1055 X k18 hk18 v3 _ z h
  · replace h := (if_neg c50).symm.trans h
    refine Rt.iconst 0 dL_law_525 (by decide) ?_
    obtain rfl := Option.some.inj h
    exact Rt.ret (v := some (.int (0 : Int32))) dL_law_526 rfl rfl rfl
def fL_law_b527 (k18 : Int32 → Sto → Option (Int32 × Sto)) (X : Scr) (v3 : Int32) (σ : Sto) : Option (Int32 × Sto) := if inb (v3 + (1 : Int32)) X.1 = true then (if inb (v3 + (2 : Int32)) X.1 = true then ((fX3_mean (X.2 ((v3 + (1 : Int32))).toNatClampNeg) (X.2 ((v3 + (2 : Int32))).toNatClampNeg) σ).bind fun q27 => if inb (v3 + (1 : Int32)) X.1 = true then (if inb (v3 + (2 : Int32)) X.1 = true then ((fX4_mean (X.2 ((v3 + (1 : Int32))).toNatClampNeg) (X.2 ((v3 + (2 : Int32))).toNatClampNeg) q27.2).bind fun q28 => if (lg_cmp q27.1 q28.1) = 0 then (fL_law_b1055 k18 X v3 q28.2) else (some ((0 : Int32), q28.2))) else none) else none) else none) else none
set_option maxRecDepth 100000 in
set_option maxHeartbeats 4000000 in
theorem wfL_law_b527 (X : Scr) (k18 : Int32 → Sto → Option (Int32 × Sto)) (hk18 : ∀ (v3 : Int32) (σ : Sto) (z : Int32 × Sto), k18 v3 σ = some z → Rt X RL cL_law 4 room_1 .ireturn 18 [(0, .ref 30), (1, .ref 0), (2, .ref 17), (3, .int v3)] [] σ (some (.int z.1)) z.2) (v3 : Int32) (σ : Sto) (z : Int32 × Sto) (h : fL_law_b527 k18 X v3 σ = some z) : Rt X RL cL_law 4 room_1 .ireturn 527 [(0, .ref 30), (1, .ref 0), (2, .ref 17), (3, .int v3)] [] σ (some (.int z.1)) z.2 := by
  unfold fL_law_b527 at h
  refine Rt.aload_n 1 dL_law_527 rfl ?_
  refine Rt.aload_n 0 dL_law_528 rfl ?_
  refine Rt.iload_n 3 dL_law_529 rfl ?_
  refine Rt.iconst 1 dL_law_530 (by decide) ?_
  refine Rt.iadd dL_law_531 ?_
  obtain ⟨g51, h⟩ := gd h
  refine Rt.ialdX g51 dL_law_532 ?_
  refine Rt.aload_n 0 dL_law_533 rfl ?_
  refine Rt.iload_n 3 dL_law_534 rfl ?_
  refine Rt.iconst 2 dL_law_535 (by decide) ?_
  refine Rt.iadd dL_law_536 ?_
  obtain ⟨g52, h⟩ := gd h
  refine Rt.ialdX g52 dL_law_537 ?_
  obtain ⟨q27, e27, h⟩ := bnd h
  refine Rt.cV (mfX3_mean (X.2 ((v3 + (1 : Int32))).toNatClampNeg) (X.2 ((v3 + (2 : Int32))).toNatClampNeg) _ q27 e27) lkL_69 ly0 rfl rfl rfl ⟨Nat.le_of_ble_eq_true rfl, Nat.le_of_ble_eq_true rfl⟩ (Nat.le_of_ble_eq_true rfl) rfl dL_law_538 ?_
  refine Rt.aload_n 2 dL_law_541 rfl ?_
  refine Rt.aload_n 0 dL_law_542 rfl ?_
  refine Rt.iload_n 3 dL_law_543 rfl ?_
  refine Rt.iconst 1 dL_law_544 (by decide) ?_
  refine Rt.iadd dL_law_545 ?_
  obtain ⟨g53, h⟩ := gd h
  refine Rt.ialdX g53 dL_law_546 ?_
  refine Rt.aload_n 0 dL_law_547 rfl ?_
  refine Rt.iload_n 3 dL_law_548 rfl ?_
  refine Rt.iconst 2 dL_law_549 (by decide) ?_
  refine Rt.iadd dL_law_550 ?_
  obtain ⟨g54, h⟩ := gd h
  refine Rt.ialdX g54 dL_law_551 ?_
  obtain ⟨q28, e28, h⟩ := bnd h
  refine Rt.cV (mfX4_mean (X.2 ((v3 + (1 : Int32))).toNatClampNeg) (X.2 ((v3 + (2 : Int32))).toNatClampNeg) _ q28 e28) lkL_73 ly17 rfl rfl rfl ⟨Nat.le_of_ble_eq_true rfl, Nat.le_of_ble_eq_true rfl⟩ (Nat.le_of_ble_eq_true rfl) rfl dL_law_552 ?_
  refine Rt.lcmp dL_law_555 ?_
  refine Rt.if_eq 1055 dL_law_556 (by decide) (fun c55 => ?_) (fun c55 => ?_)
  · replace h := (if_pos c55).symm.trans h
    exact wfL_law_b1055 X k18 hk18 v3 _ z h
  · replace h := (if_neg c55).symm.trans h
    refine Rt.iconst 0 dL_law_559 (by decide) ?_
    obtain rfl := Option.some.inj h
    exact Rt.ret (v := some (.int (0 : Int32))) dL_law_560 rfl rfl rfl
def fL_law_b561 (k18 : Int32 → Sto → Option (Int32 × Sto)) (X : Scr) (v3 : Int32) (σ : Sto) : Option (Int32 × Sto) := if inb (v3 + (1 : Int32)) X.1 = true then ((fX3_hardest (X.2 ((v3 + (1 : Int32))).toNatClampNeg) σ).bind fun q29 => if inb (v3 + (1 : Int32)) X.1 = true then ((fX4_hardest (X.2 ((v3 + (1 : Int32))).toNatClampNeg) q29.2).bind fun q30 => if q29.1 = q30.1 then (fL_law_b1055 k18 X v3 q30.2) else (some ((0 : Int32), q30.2))) else none) else none
set_option maxRecDepth 100000 in
set_option maxHeartbeats 4000000 in
theorem wfL_law_b561 (X : Scr) (k18 : Int32 → Sto → Option (Int32 × Sto)) (hk18 : ∀ (v3 : Int32) (σ : Sto) (z : Int32 × Sto), k18 v3 σ = some z → Rt X RL cL_law 4 room_1 .ireturn 18 [(0, .ref 30), (1, .ref 0), (2, .ref 17), (3, .int v3)] [] σ (some (.int z.1)) z.2) (v3 : Int32) (σ : Sto) (z : Int32 × Sto) (h : fL_law_b561 k18 X v3 σ = some z) : Rt X RL cL_law 4 room_1 .ireturn 561 [(0, .ref 30), (1, .ref 0), (2, .ref 17), (3, .int v3)] [] σ (some (.int z.1)) z.2 := by
  unfold fL_law_b561 at h
  refine Rt.aload_n 1 dL_law_561 rfl ?_
  refine Rt.aload_n 0 dL_law_562 rfl ?_
  refine Rt.iload_n 3 dL_law_563 rfl ?_
  refine Rt.iconst 1 dL_law_564 (by decide) ?_
  refine Rt.iadd dL_law_565 ?_
  obtain ⟨g56, h⟩ := gd h
  refine Rt.ialdX g56 dL_law_566 ?_
  obtain ⟨q29, e29, h⟩ := bnd h
  refine Rt.cV (mfX3_hardest (X.2 ((v3 + (1 : Int32))).toNatClampNeg) _ q29 e29) lkL_74 ly0 rfl rfl rfl ⟨Nat.le_of_ble_eq_true rfl, Nat.le_of_ble_eq_true rfl⟩ (Nat.le_of_ble_eq_true rfl) rfl dL_law_567 ?_
  refine Rt.aload_n 2 dL_law_570 rfl ?_
  refine Rt.aload_n 0 dL_law_571 rfl ?_
  refine Rt.iload_n 3 dL_law_572 rfl ?_
  refine Rt.iconst 1 dL_law_573 (by decide) ?_
  refine Rt.iadd dL_law_574 ?_
  obtain ⟨g57, h⟩ := gd h
  refine Rt.ialdX g57 dL_law_575 ?_
  obtain ⟨q30, e30, h⟩ := bnd h
  refine Rt.cV (mfX4_hardest (X.2 ((v3 + (1 : Int32))).toNatClampNeg) _ q30 e30) lkL_77 ly17 rfl rfl rfl ⟨Nat.le_of_ble_eq_true rfl, Nat.le_of_ble_eq_true rfl⟩ (Nat.le_of_ble_eq_true rfl) rfl dL_law_576 ?_
  refine Rt.icmp_eq 1055 dL_law_579 (by decide) (fun c58 => ?_) (fun c58 => ?_)
  · replace h := (if_pos c58).symm.trans h
    exact wfL_law_b1055 X k18 hk18 v3 _ z h
  · replace h := (if_neg c58).symm.trans h
    refine Rt.iconst 0 dL_law_582 (by decide) ?_
    obtain rfl := Option.some.inj h
    exact Rt.ret (v := some (.int (0 : Int32))) dL_law_583 rfl rfl rfl
def fL_law_b584 (k18 : Int32 → Sto → Option (Int32 × Sto)) (X : Scr) (v3 : Int32) (σ : Sto) : Option (Int32 × Sto) := if inb (v3 + (1 : Int32)) X.1 = true then (if inb (v3 + (2 : Int32)) X.1 = true then ((fX3_speak (X.2 ((v3 + (1 : Int32))).toNatClampNeg) (X.2 ((v3 + (2 : Int32))).toNatClampNeg) σ).bind fun q31 => if inb (v3 + (1 : Int32)) X.1 = true then (if inb (v3 + (2 : Int32)) X.1 = true then ((fX4_speak (X.2 ((v3 + (1 : Int32))).toNatClampNeg) (X.2 ((v3 + (2 : Int32))).toNatClampNeg) q31.2).bind fun q32 => if q31.1 = q32.1 then (fL_law_b1055 k18 X v3 q32.2) else (some ((0 : Int32), q32.2))) else none) else none) else none) else none
set_option maxRecDepth 100000 in
set_option maxHeartbeats 4000000 in
theorem wfL_law_b584 (X : Scr) (k18 : Int32 → Sto → Option (Int32 × Sto)) (hk18 : ∀ (v3 : Int32) (σ : Sto) (z : Int32 × Sto), k18 v3 σ = some z → Rt X RL cL_law 4 room_1 .ireturn 18 [(0, .ref 30), (1, .ref 0), (2, .ref 17), (3, .int v3)] [] σ (some (.int z.1)) z.2) (v3 : Int32) (σ : Sto) (z : Int32 × Sto) (h : fL_law_b584 k18 X v3 σ = some z) : Rt X RL cL_law 4 room_1 .ireturn 584 [(0, .ref 30), (1, .ref 0), (2, .ref 17), (3, .int v3)] [] σ (some (.int z.1)) z.2 := by
  unfold fL_law_b584 at h
  refine Rt.aload_n 1 dL_law_584 rfl ?_
  refine Rt.aload_n 0 dL_law_585 rfl ?_
  refine Rt.iload_n 3 dL_law_586 rfl ?_
  refine Rt.iconst 1 dL_law_587 (by decide) ?_
  refine Rt.iadd dL_law_588 ?_
  obtain ⟨g59, h⟩ := gd h
  refine Rt.ialdX g59 dL_law_589 ?_
  refine Rt.aload_n 0 dL_law_590 rfl ?_
  refine Rt.iload_n 3 dL_law_591 rfl ?_
  refine Rt.iconst 2 dL_law_592 (by decide) ?_
  refine Rt.iadd dL_law_593 ?_
  obtain ⟨g60, h⟩ := gd h
  refine Rt.ialdX g60 dL_law_594 ?_
  obtain ⟨q31, e31, h⟩ := bnd h
  refine Rt.cV (mfX3_speak (X.2 ((v3 + (1 : Int32))).toNatClampNeg) (X.2 ((v3 + (2 : Int32))).toNatClampNeg) _ q31 e31) lkL_78 ly0 rfl rfl rfl ⟨Nat.le_of_ble_eq_true rfl, Nat.le_of_ble_eq_true rfl⟩ (Nat.le_of_ble_eq_true rfl) rfl dL_law_595 ?_
  refine Rt.aload_n 2 dL_law_598 rfl ?_
  refine Rt.aload_n 0 dL_law_599 rfl ?_
  refine Rt.iload_n 3 dL_law_600 rfl ?_
  refine Rt.iconst 1 dL_law_601 (by decide) ?_
  refine Rt.iadd dL_law_602 ?_
  obtain ⟨g61, h⟩ := gd h
  refine Rt.ialdX g61 dL_law_603 ?_
  refine Rt.aload_n 0 dL_law_604 rfl ?_
  refine Rt.iload_n 3 dL_law_605 rfl ?_
  refine Rt.iconst 2 dL_law_606 (by decide) ?_
  refine Rt.iadd dL_law_607 ?_
  obtain ⟨g62, h⟩ := gd h
  refine Rt.ialdX g62 dL_law_608 ?_
  obtain ⟨q32, e32, h⟩ := bnd h
  refine Rt.cV (mfX4_speak (X.2 ((v3 + (1 : Int32))).toNatClampNeg) (X.2 ((v3 + (2 : Int32))).toNatClampNeg) _ q32 e32) lkL_81 ly17 rfl rfl rfl ⟨Nat.le_of_ble_eq_true rfl, Nat.le_of_ble_eq_true rfl⟩ (Nat.le_of_ble_eq_true rfl) rfl dL_law_609 ?_
  refine Rt.icmp_eq 1055 dL_law_612 (by decide) (fun c63 => ?_) (fun c63 => ?_)
  · replace h := (if_pos c63).symm.trans h
    exact wfL_law_b1055 X k18 hk18 v3 _ z h
  · replace h := (if_neg c63).symm.trans h
    refine Rt.iconst 0 dL_law_615 (by decide) ?_
    obtain rfl := Option.some.inj h
    exact Rt.ret (v := some (.int (0 : Int32))) dL_law_616 rfl rfl rfl
def fL_law_b617 (k18 : Int32 → Sto → Option (Int32 × Sto)) (X : Scr) (v3 : Int32) (σ : Sto) : Option (Int32 × Sto) := if inb (v3 + (1 : Int32)) X.1 = true then (if inb (v3 + (2 : Int32)) X.1 = true then ((fX3_saying (X.2 ((v3 + (1 : Int32))).toNatClampNeg) (X.2 ((v3 + (2 : Int32))).toNatClampNeg) σ).bind fun q33 => if inb (v3 + (1 : Int32)) X.1 = true then (if inb (v3 + (2 : Int32)) X.1 = true then ((fX4_saying (X.2 ((v3 + (1 : Int32))).toNatClampNeg) (X.2 ((v3 + (2 : Int32))).toNatClampNeg) q33.2).bind fun q34 => if q33.1 = q34.1 then (fL_law_b1055 k18 X v3 q34.2) else (some ((0 : Int32), q34.2))) else none) else none) else none) else none
set_option maxRecDepth 100000 in
set_option maxHeartbeats 4000000 in
theorem wfL_law_b617 (X : Scr) (k18 : Int32 → Sto → Option (Int32 × Sto)) (hk18 : ∀ (v3 : Int32) (σ : Sto) (z : Int32 × Sto), k18 v3 σ = some z → Rt X RL cL_law 4 room_1 .ireturn 18 [(0, .ref 30), (1, .ref 0), (2, .ref 17), (3, .int v3)] [] σ (some (.int z.1)) z.2) (v3 : Int32) (σ : Sto) (z : Int32 × Sto) (h : fL_law_b617 k18 X v3 σ = some z) : Rt X RL cL_law 4 room_1 .ireturn 617 [(0, .ref 30), (1, .ref 0), (2, .ref 17), (3, .int v3)] [] σ (some (.int z.1)) z.2 := by
  unfold fL_law_b617 at h
  refine Rt.aload_n 1 dL_law_617 rfl ?_
  refine Rt.aload_n 0 dL_law_618 rfl ?_
  refine Rt.iload_n 3 dL_law_619 rfl ?_
  refine Rt.iconst 1 dL_law_620 (by decide) ?_
  refine Rt.iadd dL_law_621 ?_
  obtain ⟨g64, h⟩ := gd h
  refine Rt.ialdX g64 dL_law_622 ?_
  refine Rt.aload_n 0 dL_law_623 rfl ?_
  refine Rt.iload_n 3 dL_law_624 rfl ?_
  refine Rt.iconst 2 dL_law_625 (by decide) ?_
  refine Rt.iadd dL_law_626 ?_
  obtain ⟨g65, h⟩ := gd h
  refine Rt.ialdX g65 dL_law_627 ?_
  obtain ⟨q33, e33, h⟩ := bnd h
  refine Rt.cV (mfX3_saying (X.2 ((v3 + (1 : Int32))).toNatClampNeg) (X.2 ((v3 + (2 : Int32))).toNatClampNeg) _ q33 e33) lkL_82 ly0 rfl rfl rfl ⟨Nat.le_of_ble_eq_true rfl, Nat.le_of_ble_eq_true rfl⟩ (Nat.le_of_ble_eq_true rfl) rfl dL_law_628 ?_
  refine Rt.aload_n 2 dL_law_631 rfl ?_
  refine Rt.aload_n 0 dL_law_632 rfl ?_
  refine Rt.iload_n 3 dL_law_633 rfl ?_
  refine Rt.iconst 1 dL_law_634 (by decide) ?_
  refine Rt.iadd dL_law_635 ?_
  obtain ⟨g66, h⟩ := gd h
  refine Rt.ialdX g66 dL_law_636 ?_
  refine Rt.aload_n 0 dL_law_637 rfl ?_
  refine Rt.iload_n 3 dL_law_638 rfl ?_
  refine Rt.iconst 2 dL_law_639 (by decide) ?_
  refine Rt.iadd dL_law_640 ?_
  obtain ⟨g67, h⟩ := gd h
  refine Rt.ialdX g67 dL_law_641 ?_
  obtain ⟨q34, e34, h⟩ := bnd h
  refine Rt.cV (mfX4_saying (X.2 ((v3 + (1 : Int32))).toNatClampNeg) (X.2 ((v3 + (2 : Int32))).toNatClampNeg) _ q34 e34) lkL_85 ly17 rfl rfl rfl ⟨Nat.le_of_ble_eq_true rfl, Nat.le_of_ble_eq_true rfl⟩ (Nat.le_of_ble_eq_true rfl) rfl dL_law_642 ?_
  refine Rt.icmp_eq 1055 dL_law_645 (by decide) (fun c68 => ?_) (fun c68 => ?_)
  · replace h := (if_pos c68).symm.trans h
    exact wfL_law_b1055 X k18 hk18 v3 _ z h
  · replace h := (if_neg c68).symm.trans h
    refine Rt.iconst 0 dL_law_648 (by decide) ?_
    obtain rfl := Option.some.inj h
    exact Rt.ret (v := some (.int (0 : Int32))) dL_law_649 rfl rfl rfl
def fL_law_b650 (k18 : Int32 → Sto → Option (Int32 × Sto)) (X : Scr) (v3 : Int32) (σ : Sto) : Option (Int32 × Sto) := (fX3_hush σ).bind fun q35 => (fX4_hush q35.2).bind fun q36 => if q35.1 = q36.1 then (fL_law_b1055 k18 X v3 q36.2) else (some ((0 : Int32), q36.2))
set_option maxRecDepth 100000 in
set_option maxHeartbeats 4000000 in
theorem wfL_law_b650 (X : Scr) (k18 : Int32 → Sto → Option (Int32 × Sto)) (hk18 : ∀ (v3 : Int32) (σ : Sto) (z : Int32 × Sto), k18 v3 σ = some z → Rt X RL cL_law 4 room_1 .ireturn 18 [(0, .ref 30), (1, .ref 0), (2, .ref 17), (3, .int v3)] [] σ (some (.int z.1)) z.2) (v3 : Int32) (σ : Sto) (z : Int32 × Sto) (h : fL_law_b650 k18 X v3 σ = some z) : Rt X RL cL_law 4 room_1 .ireturn 650 [(0, .ref 30), (1, .ref 0), (2, .ref 17), (3, .int v3)] [] σ (some (.int z.1)) z.2 := by
  unfold fL_law_b650 at h
  refine Rt.aload_n 1 dL_law_650 rfl ?_
  obtain ⟨q35, e35, h⟩ := bnd h
  refine Rt.cV (mfX3_hush _ q35 e35) lkL_86 ly0 rfl rfl rfl ⟨Nat.le_of_ble_eq_true rfl, Nat.le_of_ble_eq_true rfl⟩ (Nat.le_of_ble_eq_true rfl) rfl dL_law_651 ?_
  refine Rt.aload_n 2 dL_law_654 rfl ?_
  obtain ⟨q36, e36, h⟩ := bnd h
  refine Rt.cV (mfX4_hush _ q36 e36) lkL_89 ly17 rfl rfl rfl ⟨Nat.le_of_ble_eq_true rfl, Nat.le_of_ble_eq_true rfl⟩ (Nat.le_of_ble_eq_true rfl) rfl dL_law_655 ?_
  refine Rt.icmp_eq 1055 dL_law_658 (by decide) (fun c69 => ?_) (fun c69 => ?_)
  · replace h := (if_pos c69).symm.trans h
    exact wfL_law_b1055 X k18 hk18 v3 _ z h
  · replace h := (if_neg c69).symm.trans h
    refine Rt.iconst 0 dL_law_661 (by decide) ?_
    obtain rfl := Option.some.inj h
    exact Rt.ret (v := some (.int (0 : Int32))) dL_law_662 rfl rfl rfl
def fL_law_b663 (k18 : Int32 → Sto → Option (Int32 × Sto)) (X : Scr) (v3 : Int32) (σ : Sto) : Option (Int32 × Sto) := if inb (v3 + (1 : Int32)) X.1 = true then ((fX3_may (X.2 ((v3 + (1 : Int32))).toNatClampNeg) σ).bind fun q37 => if inb (v3 + (1 : Int32)) X.1 = true then ((fX4_may (X.2 ((v3 + (1 : Int32))).toNatClampNeg) q37.2).bind fun q38 => if q37.1 = q38.1 then (fL_law_b1055 k18 X v3 q38.2) else (some ((0 : Int32), q38.2))) else none) else none
set_option maxRecDepth 100000 in
set_option maxHeartbeats 4000000 in
theorem wfL_law_b663 (X : Scr) (k18 : Int32 → Sto → Option (Int32 × Sto)) (hk18 : ∀ (v3 : Int32) (σ : Sto) (z : Int32 × Sto), k18 v3 σ = some z → Rt X RL cL_law 4 room_1 .ireturn 18 [(0, .ref 30), (1, .ref 0), (2, .ref 17), (3, .int v3)] [] σ (some (.int z.1)) z.2) (v3 : Int32) (σ : Sto) (z : Int32 × Sto) (h : fL_law_b663 k18 X v3 σ = some z) : Rt X RL cL_law 4 room_1 .ireturn 663 [(0, .ref 30), (1, .ref 0), (2, .ref 17), (3, .int v3)] [] σ (some (.int z.1)) z.2 := by
  unfold fL_law_b663 at h
  refine Rt.aload_n 1 dL_law_663 rfl ?_
  refine Rt.aload_n 0 dL_law_664 rfl ?_
  refine Rt.iload_n 3 dL_law_665 rfl ?_
  refine Rt.iconst 1 dL_law_666 (by decide) ?_
  refine Rt.iadd dL_law_667 ?_
  obtain ⟨g70, h⟩ := gd h
  refine Rt.ialdX g70 dL_law_668 ?_
  obtain ⟨q37, e37, h⟩ := bnd h
  refine Rt.cV (mfX3_may (X.2 ((v3 + (1 : Int32))).toNatClampNeg) _ q37 e37) lkL_90 ly0 rfl rfl rfl ⟨Nat.le_of_ble_eq_true rfl, Nat.le_of_ble_eq_true rfl⟩ (Nat.le_of_ble_eq_true rfl) rfl dL_law_669 ?_
  refine Rt.aload_n 2 dL_law_672 rfl ?_
  refine Rt.aload_n 0 dL_law_673 rfl ?_
  refine Rt.iload_n 3 dL_law_674 rfl ?_
  refine Rt.iconst 1 dL_law_675 (by decide) ?_
  refine Rt.iadd dL_law_676 ?_
  obtain ⟨g71, h⟩ := gd h
  refine Rt.ialdX g71 dL_law_677 ?_
  obtain ⟨q38, e38, h⟩ := bnd h
  refine Rt.cV (mfX4_may (X.2 ((v3 + (1 : Int32))).toNatClampNeg) _ q38 e38) lkL_93 ly17 rfl rfl rfl ⟨Nat.le_of_ble_eq_true rfl, Nat.le_of_ble_eq_true rfl⟩ (Nat.le_of_ble_eq_true rfl) rfl dL_law_678 ?_
  refine Rt.icmp_eq 1055 dL_law_681 (by decide) (fun c72 => ?_) (fun c72 => ?_)
  · replace h := (if_pos c72).symm.trans h
    exact wfL_law_b1055 X k18 hk18 v3 _ z h
  · replace h := (if_neg c72).symm.trans h
    refine Rt.iconst 0 dL_law_684 (by decide) ?_
    obtain rfl := Option.some.inj h
    exact Rt.ret (v := some (.int (0 : Int32))) dL_law_685 rfl rfl rfl
def fL_law_b686 (k18 : Int32 → Sto → Option (Int32 × Sto)) (X : Scr) (v3 : Int32) (σ : Sto) : Option (Int32 × Sto) := (fX3_heMany σ).bind fun q39 => (fX4_heMany q39.2).bind fun q40 => if q39.1 = q40.1 then (fL_law_b1055 k18 X v3 q40.2) else (some ((0 : Int32), q40.2))
set_option maxRecDepth 100000 in
set_option maxHeartbeats 4000000 in
theorem wfL_law_b686 (X : Scr) (k18 : Int32 → Sto → Option (Int32 × Sto)) (hk18 : ∀ (v3 : Int32) (σ : Sto) (z : Int32 × Sto), k18 v3 σ = some z → Rt X RL cL_law 4 room_1 .ireturn 18 [(0, .ref 30), (1, .ref 0), (2, .ref 17), (3, .int v3)] [] σ (some (.int z.1)) z.2) (v3 : Int32) (σ : Sto) (z : Int32 × Sto) (h : fL_law_b686 k18 X v3 σ = some z) : Rt X RL cL_law 4 room_1 .ireturn 686 [(0, .ref 30), (1, .ref 0), (2, .ref 17), (3, .int v3)] [] σ (some (.int z.1)) z.2 := by
  unfold fL_law_b686 at h
  refine Rt.aload_n 1 dL_law_686 rfl ?_
  obtain ⟨q39, e39, h⟩ := bnd h
  refine Rt.cV (mfX3_heMany _ q39 e39) lkL_94 ly0 rfl rfl rfl ⟨Nat.le_of_ble_eq_true rfl, Nat.le_of_ble_eq_true rfl⟩ (Nat.le_of_ble_eq_true rfl) rfl dL_law_687 ?_
  refine Rt.aload_n 2 dL_law_690 rfl ?_
  obtain ⟨q40, e40, h⟩ := bnd h
  refine Rt.cV (mfX4_heMany _ q40 e40) lkL_97 ly17 rfl rfl rfl ⟨Nat.le_of_ble_eq_true rfl, Nat.le_of_ble_eq_true rfl⟩ (Nat.le_of_ble_eq_true rfl) rfl dL_law_691 ?_
  refine Rt.icmp_eq 1055 dL_law_694 (by decide) (fun c73 => ?_) (fun c73 => ?_)
  · replace h := (if_pos c73).symm.trans h
    exact wfL_law_b1055 X k18 hk18 v3 _ z h
  · replace h := (if_neg c73).symm.trans h
    refine Rt.iconst 0 dL_law_697 (by decide) ?_
    obtain rfl := Option.some.inj h
    exact Rt.ret (v := some (.int (0 : Int32))) dL_law_698 rfl rfl rfl
def fL_law_b699 (k18 : Int32 → Sto → Option (Int32 × Sto)) (X : Scr) (v3 : Int32) (σ : Sto) : Option (Int32 × Sto) := if inb (v3 + (1 : Int32)) X.1 = true then (if inb (v3 + (2 : Int32)) X.1 = true then ((fX3_odds (X.2 ((v3 + (1 : Int32))).toNatClampNeg) (X.2 ((v3 + (2 : Int32))).toNatClampNeg) σ).bind fun q41 => if inb (v3 + (1 : Int32)) X.1 = true then (if inb (v3 + (2 : Int32)) X.1 = true then ((fX4_odds (X.2 ((v3 + (1 : Int32))).toNatClampNeg) (X.2 ((v3 + (2 : Int32))).toNatClampNeg) q41.2).bind fun q42 => if (lg_cmp q41.1 q42.1) = 0 then (fL_law_b1055 k18 X v3 q42.2) else (some ((0 : Int32), q42.2))) else none) else none) else none) else none
set_option maxRecDepth 100000 in
set_option maxHeartbeats 4000000 in
theorem wfL_law_b699 (X : Scr) (k18 : Int32 → Sto → Option (Int32 × Sto)) (hk18 : ∀ (v3 : Int32) (σ : Sto) (z : Int32 × Sto), k18 v3 σ = some z → Rt X RL cL_law 4 room_1 .ireturn 18 [(0, .ref 30), (1, .ref 0), (2, .ref 17), (3, .int v3)] [] σ (some (.int z.1)) z.2) (v3 : Int32) (σ : Sto) (z : Int32 × Sto) (h : fL_law_b699 k18 X v3 σ = some z) : Rt X RL cL_law 4 room_1 .ireturn 699 [(0, .ref 30), (1, .ref 0), (2, .ref 17), (3, .int v3)] [] σ (some (.int z.1)) z.2 := by
  unfold fL_law_b699 at h
  refine Rt.aload_n 1 dL_law_699 rfl ?_
  refine Rt.aload_n 0 dL_law_700 rfl ?_
  refine Rt.iload_n 3 dL_law_701 rfl ?_
  refine Rt.iconst 1 dL_law_702 (by decide) ?_
  refine Rt.iadd dL_law_703 ?_
  obtain ⟨g74, h⟩ := gd h
  refine Rt.ialdX g74 dL_law_704 ?_
  refine Rt.aload_n 0 dL_law_705 rfl ?_
  refine Rt.iload_n 3 dL_law_706 rfl ?_
  refine Rt.iconst 2 dL_law_707 (by decide) ?_
  refine Rt.iadd dL_law_708 ?_
  obtain ⟨g75, h⟩ := gd h
  refine Rt.ialdX g75 dL_law_709 ?_
  obtain ⟨q41, e41, h⟩ := bnd h
  refine Rt.cV (mfX3_odds (X.2 ((v3 + (1 : Int32))).toNatClampNeg) (X.2 ((v3 + (2 : Int32))).toNatClampNeg) _ q41 e41) lkL_98 ly0 rfl rfl rfl ⟨Nat.le_of_ble_eq_true rfl, Nat.le_of_ble_eq_true rfl⟩ (Nat.le_of_ble_eq_true rfl) rfl dL_law_710 ?_
  refine Rt.aload_n 2 dL_law_713 rfl ?_
  refine Rt.aload_n 0 dL_law_714 rfl ?_
  refine Rt.iload_n 3 dL_law_715 rfl ?_
  refine Rt.iconst 1 dL_law_716 (by decide) ?_
  refine Rt.iadd dL_law_717 ?_
  obtain ⟨g76, h⟩ := gd h
  refine Rt.ialdX g76 dL_law_718 ?_
  refine Rt.aload_n 0 dL_law_719 rfl ?_
  refine Rt.iload_n 3 dL_law_720 rfl ?_
  refine Rt.iconst 2 dL_law_721 (by decide) ?_
  refine Rt.iadd dL_law_722 ?_
  obtain ⟨g77, h⟩ := gd h
  refine Rt.ialdX g77 dL_law_723 ?_
  obtain ⟨q42, e42, h⟩ := bnd h
  refine Rt.cV (mfX4_odds (X.2 ((v3 + (1 : Int32))).toNatClampNeg) (X.2 ((v3 + (2 : Int32))).toNatClampNeg) _ q42 e42) lkL_101 ly17 rfl rfl rfl ⟨Nat.le_of_ble_eq_true rfl, Nat.le_of_ble_eq_true rfl⟩ (Nat.le_of_ble_eq_true rfl) rfl dL_law_724 ?_
  refine Rt.lcmp dL_law_727 ?_
  refine Rt.if_eq 1055 dL_law_728 (by decide) (fun c78 => ?_) (fun c78 => ?_)
  · replace h := (if_pos c78).symm.trans h
    exact wfL_law_b1055 X k18 hk18 v3 _ z h
  · replace h := (if_neg c78).symm.trans h
    refine Rt.iconst 0 dL_law_731 (by decide) ?_
    obtain rfl := Option.some.inj h
    exact Rt.ret (v := some (.int (0 : Int32))) dL_law_732 rfl rfl rfl
def fL_law_b733 (k18 : Int32 → Sto → Option (Int32 × Sto)) (X : Scr) (v3 : Int32) (σ : Sto) : Option (Int32 × Sto) := if inb (v3 + (1 : Int32)) X.1 = true then ((fX3_next (X.2 ((v3 + (1 : Int32))).toNatClampNeg) σ).bind fun q43 => if inb (v3 + (1 : Int32)) X.1 = true then ((fX4_next_ (X.2 ((v3 + (1 : Int32))).toNatClampNeg) q43.2).bind fun q44 => if q43.1 = q44.1 then (fL_law_b1055 k18 X v3 q44.2) else (some ((0 : Int32), q44.2))) else none) else none
set_option maxRecDepth 100000 in
set_option maxHeartbeats 4000000 in
theorem wfL_law_b733 (X : Scr) (k18 : Int32 → Sto → Option (Int32 × Sto)) (hk18 : ∀ (v3 : Int32) (σ : Sto) (z : Int32 × Sto), k18 v3 σ = some z → Rt X RL cL_law 4 room_1 .ireturn 18 [(0, .ref 30), (1, .ref 0), (2, .ref 17), (3, .int v3)] [] σ (some (.int z.1)) z.2) (v3 : Int32) (σ : Sto) (z : Int32 × Sto) (h : fL_law_b733 k18 X v3 σ = some z) : Rt X RL cL_law 4 room_1 .ireturn 733 [(0, .ref 30), (1, .ref 0), (2, .ref 17), (3, .int v3)] [] σ (some (.int z.1)) z.2 := by
  unfold fL_law_b733 at h
  refine Rt.aload_n 1 dL_law_733 rfl ?_
  refine Rt.aload_n 0 dL_law_734 rfl ?_
  refine Rt.iload_n 3 dL_law_735 rfl ?_
  refine Rt.iconst 1 dL_law_736 (by decide) ?_
  refine Rt.iadd dL_law_737 ?_
  obtain ⟨g79, h⟩ := gd h
  refine Rt.ialdX g79 dL_law_738 ?_
  obtain ⟨q43, e43, h⟩ := bnd h
  refine Rt.cV (mfX3_next (X.2 ((v3 + (1 : Int32))).toNatClampNeg) _ q43 e43) lkL_102 ly0 rfl rfl rfl ⟨Nat.le_of_ble_eq_true rfl, Nat.le_of_ble_eq_true rfl⟩ (Nat.le_of_ble_eq_true rfl) rfl dL_law_739 ?_
  refine Rt.aload_n 2 dL_law_742 rfl ?_
  refine Rt.aload_n 0 dL_law_743 rfl ?_
  refine Rt.iload_n 3 dL_law_744 rfl ?_
  refine Rt.iconst 1 dL_law_745 (by decide) ?_
  refine Rt.iadd dL_law_746 ?_
  obtain ⟨g80, h⟩ := gd h
  refine Rt.ialdX g80 dL_law_747 ?_
  obtain ⟨q44, e44, h⟩ := bnd h
  refine Rt.cV (mfX4_next_ (X.2 ((v3 + (1 : Int32))).toNatClampNeg) _ q44 e44) lkL_105 ly17 rfl rfl rfl ⟨Nat.le_of_ble_eq_true rfl, Nat.le_of_ble_eq_true rfl⟩ (Nat.le_of_ble_eq_true rfl) rfl dL_law_748 ?_
  refine Rt.icmp_eq 1055 dL_law_751 (by decide) (fun c81 => ?_) (fun c81 => ?_)
  · replace h := (if_pos c81).symm.trans h
    exact wfL_law_b1055 X k18 hk18 v3 _ z h
  · replace h := (if_neg c81).symm.trans h
    refine Rt.iconst 0 dL_law_754 (by decide) ?_
    obtain rfl := Option.some.inj h
    exact Rt.ret (v := some (.int (0 : Int32))) dL_law_755 rfl rfl rfl
def fL_law_b756 (k18 : Int32 → Sto → Option (Int32 × Sto)) (X : Scr) (v3 : Int32) (σ : Sto) : Option (Int32 × Sto) := if inb (v3 + (1 : Int32)) X.1 = true then ((fX3_strip (X.2 ((v3 + (1 : Int32))).toNatClampNeg) σ).bind fun q45 => if inb (v3 + (1 : Int32)) X.1 = true then ((fX4_strip (X.2 ((v3 + (1 : Int32))).toNatClampNeg) q45.2).bind fun q46 => if q45.1 = q46.1 then (fL_law_b1055 k18 X v3 q46.2) else (some ((0 : Int32), q46.2))) else none) else none
set_option maxRecDepth 100000 in
set_option maxHeartbeats 4000000 in
theorem wfL_law_b756 (X : Scr) (k18 : Int32 → Sto → Option (Int32 × Sto)) (hk18 : ∀ (v3 : Int32) (σ : Sto) (z : Int32 × Sto), k18 v3 σ = some z → Rt X RL cL_law 4 room_1 .ireturn 18 [(0, .ref 30), (1, .ref 0), (2, .ref 17), (3, .int v3)] [] σ (some (.int z.1)) z.2) (v3 : Int32) (σ : Sto) (z : Int32 × Sto) (h : fL_law_b756 k18 X v3 σ = some z) : Rt X RL cL_law 4 room_1 .ireturn 756 [(0, .ref 30), (1, .ref 0), (2, .ref 17), (3, .int v3)] [] σ (some (.int z.1)) z.2 := by
  unfold fL_law_b756 at h
  refine Rt.aload_n 1 dL_law_756 rfl ?_
  refine Rt.aload_n 0 dL_law_757 rfl ?_
  refine Rt.iload_n 3 dL_law_758 rfl ?_
  refine Rt.iconst 1 dL_law_759 (by decide) ?_
  refine Rt.iadd dL_law_760 ?_
  obtain ⟨g82, h⟩ := gd h
  refine Rt.ialdX g82 dL_law_761 ?_
  obtain ⟨q45, e45, h⟩ := bnd h
  refine Rt.cV (mfX3_strip (X.2 ((v3 + (1 : Int32))).toNatClampNeg) _ q45 e45) lkL_106 ly0 rfl rfl rfl ⟨Nat.le_of_ble_eq_true rfl, Nat.le_of_ble_eq_true rfl⟩ (Nat.le_of_ble_eq_true rfl) rfl dL_law_762 ?_
  refine Rt.aload_n 2 dL_law_765 rfl ?_
  refine Rt.aload_n 0 dL_law_766 rfl ?_
  refine Rt.iload_n 3 dL_law_767 rfl ?_
  refine Rt.iconst 1 dL_law_768 (by decide) ?_
  refine Rt.iadd dL_law_769 ?_
  obtain ⟨g83, h⟩ := gd h
  refine Rt.ialdX g83 dL_law_770 ?_
  obtain ⟨q46, e46, h⟩ := bnd h
  refine Rt.cV (mfX4_strip (X.2 ((v3 + (1 : Int32))).toNatClampNeg) _ q46 e46) lkL_109 ly17 rfl rfl rfl ⟨Nat.le_of_ble_eq_true rfl, Nat.le_of_ble_eq_true rfl⟩ (Nat.le_of_ble_eq_true rfl) rfl dL_law_771 ?_
  refine Rt.icmp_eq 1055 dL_law_774 (by decide) (fun c84 => ?_) (fun c84 => ?_)
  · replace h := (if_pos c84).symm.trans h
    exact wfL_law_b1055 X k18 hk18 v3 _ z h
  · replace h := (if_neg c84).symm.trans h
    refine Rt.iconst 0 dL_law_777 (by decide) ?_
    obtain rfl := Option.some.inj h
    exact Rt.ret (v := some (.int (0 : Int32))) dL_law_778 rfl rfl rfl
def fL_law_b779 (k18 : Int32 → Sto → Option (Int32 × Sto)) (X : Scr) (v3 : Int32) (σ : Sto) : Option (Int32 × Sto) := (fX3_bestStrip σ).bind fun q47 => (fX4_bestStrip q47.2).bind fun q48 => if q47.1 = q48.1 then (fL_law_b1055 k18 X v3 q48.2) else (some ((0 : Int32), q48.2))
set_option maxRecDepth 100000 in
set_option maxHeartbeats 4000000 in
theorem wfL_law_b779 (X : Scr) (k18 : Int32 → Sto → Option (Int32 × Sto)) (hk18 : ∀ (v3 : Int32) (σ : Sto) (z : Int32 × Sto), k18 v3 σ = some z → Rt X RL cL_law 4 room_1 .ireturn 18 [(0, .ref 30), (1, .ref 0), (2, .ref 17), (3, .int v3)] [] σ (some (.int z.1)) z.2) (v3 : Int32) (σ : Sto) (z : Int32 × Sto) (h : fL_law_b779 k18 X v3 σ = some z) : Rt X RL cL_law 4 room_1 .ireturn 779 [(0, .ref 30), (1, .ref 0), (2, .ref 17), (3, .int v3)] [] σ (some (.int z.1)) z.2 := by
  unfold fL_law_b779 at h
  refine Rt.aload_n 1 dL_law_779 rfl ?_
  obtain ⟨q47, e47, h⟩ := bnd h
  refine Rt.cV (mfX3_bestStrip _ q47 e47) lkL_110 ly0 rfl rfl rfl ⟨Nat.le_of_ble_eq_true rfl, Nat.le_of_ble_eq_true rfl⟩ (Nat.le_of_ble_eq_true rfl) rfl dL_law_780 ?_
  refine Rt.aload_n 2 dL_law_783 rfl ?_
  obtain ⟨q48, e48, h⟩ := bnd h
  refine Rt.cV (mfX4_bestStrip _ q48 e48) lkL_113 ly17 rfl rfl rfl ⟨Nat.le_of_ble_eq_true rfl, Nat.le_of_ble_eq_true rfl⟩ (Nat.le_of_ble_eq_true rfl) rfl dL_law_784 ?_
  refine Rt.icmp_eq 1055 dL_law_787 (by decide) (fun c85 => ?_) (fun c85 => ?_)
  · replace h := (if_pos c85).symm.trans h
    exact wfL_law_b1055 X k18 hk18 v3 _ z h
  · replace h := (if_neg c85).symm.trans h
    refine Rt.iconst 0 dL_law_790 (by decide) ?_
    obtain rfl := Option.some.inj h
    exact Rt.ret (v := some (.int (0 : Int32))) dL_law_791 rfl rfl rfl
def fL_law_b792 (k18 : Int32 → Sto → Option (Int32 × Sto)) (X : Scr) (v3 : Int32) (σ : Sto) : Option (Int32 × Sto) := if inb (v3 + (1 : Int32)) X.1 = true then ((fX3_fewest (X.2 ((v3 + (1 : Int32))).toNatClampNeg) σ).bind fun q49 => if inb (v3 + (1 : Int32)) X.1 = true then ((fX4_fewest (X.2 ((v3 + (1 : Int32))).toNatClampNeg) q49.2).bind fun q50 => if q49.1 = q50.1 then (fL_law_b1055 k18 X v3 q50.2) else (some ((0 : Int32), q50.2))) else none) else none
set_option maxRecDepth 100000 in
set_option maxHeartbeats 4000000 in
theorem wfL_law_b792 (X : Scr) (k18 : Int32 → Sto → Option (Int32 × Sto)) (hk18 : ∀ (v3 : Int32) (σ : Sto) (z : Int32 × Sto), k18 v3 σ = some z → Rt X RL cL_law 4 room_1 .ireturn 18 [(0, .ref 30), (1, .ref 0), (2, .ref 17), (3, .int v3)] [] σ (some (.int z.1)) z.2) (v3 : Int32) (σ : Sto) (z : Int32 × Sto) (h : fL_law_b792 k18 X v3 σ = some z) : Rt X RL cL_law 4 room_1 .ireturn 792 [(0, .ref 30), (1, .ref 0), (2, .ref 17), (3, .int v3)] [] σ (some (.int z.1)) z.2 := by
  unfold fL_law_b792 at h
  refine Rt.aload_n 1 dL_law_792 rfl ?_
  refine Rt.aload_n 0 dL_law_793 rfl ?_
  refine Rt.iload_n 3 dL_law_794 rfl ?_
  refine Rt.iconst 1 dL_law_795 (by decide) ?_
  refine Rt.iadd dL_law_796 ?_
  obtain ⟨g86, h⟩ := gd h
  refine Rt.ialdX g86 dL_law_797 ?_
  obtain ⟨q49, e49, h⟩ := bnd h
  refine Rt.cV (mfX3_fewest (X.2 ((v3 + (1 : Int32))).toNatClampNeg) _ q49 e49) lkL_114 ly0 rfl rfl rfl ⟨Nat.le_of_ble_eq_true rfl, Nat.le_of_ble_eq_true rfl⟩ (Nat.le_of_ble_eq_true rfl) rfl dL_law_798 ?_
  refine Rt.aload_n 2 dL_law_801 rfl ?_
  refine Rt.aload_n 0 dL_law_802 rfl ?_
  refine Rt.iload_n 3 dL_law_803 rfl ?_
  refine Rt.iconst 1 dL_law_804 (by decide) ?_
  refine Rt.iadd dL_law_805 ?_
  obtain ⟨g87, h⟩ := gd h
  refine Rt.ialdX g87 dL_law_806 ?_
  obtain ⟨q50, e50, h⟩ := bnd h
  refine Rt.cV (mfX4_fewest (X.2 ((v3 + (1 : Int32))).toNatClampNeg) _ q50 e50) lkL_117 ly17 rfl rfl rfl ⟨Nat.le_of_ble_eq_true rfl, Nat.le_of_ble_eq_true rfl⟩ (Nat.le_of_ble_eq_true rfl) rfl dL_law_807 ?_
  refine Rt.icmp_eq 1055 dL_law_810 (by decide) (fun c88 => ?_) (fun c88 => ?_)
  · replace h := (if_pos c88).symm.trans h
    exact wfL_law_b1055 X k18 hk18 v3 _ z h
  · replace h := (if_neg c88).symm.trans h
    refine Rt.iconst 0 dL_law_813 (by decide) ?_
    obtain rfl := Option.some.inj h
    exact Rt.ret (v := some (.int (0 : Int32))) dL_law_814 rfl rfl rfl
def fL_law_b815 (k18 : Int32 → Sto → Option (Int32 × Sto)) (X : Scr) (v3 : Int32) (σ : Sto) : Option (Int32 × Sto) := if inb (v3 + (1 : Int32)) X.1 = true then (if inb (v3 + (2 : Int32)) X.1 = true then ((fX3_bears (X.2 ((v3 + (1 : Int32))).toNatClampNeg) (X.2 ((v3 + (2 : Int32))).toNatClampNeg) σ).bind fun q51 => if inb (v3 + (1 : Int32)) X.1 = true then (if inb (v3 + (2 : Int32)) X.1 = true then ((fX4_bears (X.2 ((v3 + (1 : Int32))).toNatClampNeg) (X.2 ((v3 + (2 : Int32))).toNatClampNeg) q51.2).bind fun q52 => if q51.1 = q52.1 then (fL_law_b1055 k18 X v3 q52.2) else (some ((0 : Int32), q52.2))) else none) else none) else none) else none
set_option maxRecDepth 100000 in
set_option maxHeartbeats 4000000 in
theorem wfL_law_b815 (X : Scr) (k18 : Int32 → Sto → Option (Int32 × Sto)) (hk18 : ∀ (v3 : Int32) (σ : Sto) (z : Int32 × Sto), k18 v3 σ = some z → Rt X RL cL_law 4 room_1 .ireturn 18 [(0, .ref 30), (1, .ref 0), (2, .ref 17), (3, .int v3)] [] σ (some (.int z.1)) z.2) (v3 : Int32) (σ : Sto) (z : Int32 × Sto) (h : fL_law_b815 k18 X v3 σ = some z) : Rt X RL cL_law 4 room_1 .ireturn 815 [(0, .ref 30), (1, .ref 0), (2, .ref 17), (3, .int v3)] [] σ (some (.int z.1)) z.2 := by
  unfold fL_law_b815 at h
  refine Rt.aload_n 1 dL_law_815 rfl ?_
  refine Rt.aload_n 0 dL_law_816 rfl ?_
  refine Rt.iload_n 3 dL_law_817 rfl ?_
  refine Rt.iconst 1 dL_law_818 (by decide) ?_
  refine Rt.iadd dL_law_819 ?_
  obtain ⟨g89, h⟩ := gd h
  refine Rt.ialdX g89 dL_law_820 ?_
  refine Rt.aload_n 0 dL_law_821 rfl ?_
  refine Rt.iload_n 3 dL_law_822 rfl ?_
  refine Rt.iconst 2 dL_law_823 (by decide) ?_
  refine Rt.iadd dL_law_824 ?_
  obtain ⟨g90, h⟩ := gd h
  refine Rt.ialdX g90 dL_law_825 ?_
  obtain ⟨q51, e51, h⟩ := bnd h
  refine Rt.cV (mfX3_bears (X.2 ((v3 + (1 : Int32))).toNatClampNeg) (X.2 ((v3 + (2 : Int32))).toNatClampNeg) _ q51 e51) lkL_118 ly0 rfl rfl rfl ⟨Nat.le_of_ble_eq_true rfl, Nat.le_of_ble_eq_true rfl⟩ (Nat.le_of_ble_eq_true rfl) rfl dL_law_826 ?_
  refine Rt.aload_n 2 dL_law_829 rfl ?_
  refine Rt.aload_n 0 dL_law_830 rfl ?_
  refine Rt.iload_n 3 dL_law_831 rfl ?_
  refine Rt.iconst 1 dL_law_832 (by decide) ?_
  refine Rt.iadd dL_law_833 ?_
  obtain ⟨g91, h⟩ := gd h
  refine Rt.ialdX g91 dL_law_834 ?_
  refine Rt.aload_n 0 dL_law_835 rfl ?_
  refine Rt.iload_n 3 dL_law_836 rfl ?_
  refine Rt.iconst 2 dL_law_837 (by decide) ?_
  refine Rt.iadd dL_law_838 ?_
  obtain ⟨g92, h⟩ := gd h
  refine Rt.ialdX g92 dL_law_839 ?_
  obtain ⟨q52, e52, h⟩ := bnd h
  refine Rt.cV (mfX4_bears (X.2 ((v3 + (1 : Int32))).toNatClampNeg) (X.2 ((v3 + (2 : Int32))).toNatClampNeg) _ q52 e52) lkL_121 ly17 rfl rfl rfl ⟨Nat.le_of_ble_eq_true rfl, Nat.le_of_ble_eq_true rfl⟩ (Nat.le_of_ble_eq_true rfl) rfl dL_law_840 ?_
  refine Rt.icmp_eq 1055 dL_law_843 (by decide) (fun c93 => ?_) (fun c93 => ?_)
  · replace h := (if_pos c93).symm.trans h
    exact wfL_law_b1055 X k18 hk18 v3 _ z h
  · replace h := (if_neg c93).symm.trans h
    refine Rt.iconst 0 dL_law_846 (by decide) ?_
    obtain rfl := Option.some.inj h
    exact Rt.ret (v := some (.int (0 : Int32))) dL_law_847 rfl rfl rfl
def fL_law_b848 (k18 : Int32 → Sto → Option (Int32 × Sto)) (X : Scr) (v3 : Int32) (σ : Sto) : Option (Int32 × Sto) := if inb (v3 + (1 : Int32)) X.1 = true then (if inb (v3 + (2 : Int32)) X.1 = true then (if inb (v3 + (3 : Int32)) X.1 = true then (if inb (v3 + (4 : Int32)) X.1 = true then ((fX3_grid (X.2 ((v3 + (1 : Int32))).toNatClampNeg) (X.2 ((v3 + (2 : Int32))).toNatClampNeg) (X.2 ((v3 + (3 : Int32))).toNatClampNeg) (X.2 ((v3 + (4 : Int32))).toNatClampNeg) σ).bind fun q53 => if inb (v3 + (1 : Int32)) X.1 = true then (if inb (v3 + (2 : Int32)) X.1 = true then (if inb (v3 + (3 : Int32)) X.1 = true then (if inb (v3 + (4 : Int32)) X.1 = true then ((fX4_grid (X.2 ((v3 + (1 : Int32))).toNatClampNeg) (X.2 ((v3 + (2 : Int32))).toNatClampNeg) (X.2 ((v3 + (3 : Int32))).toNatClampNeg) (X.2 ((v3 + (4 : Int32))).toNatClampNeg) q53.2).bind fun q54 => if q53.1 = q54.1 then (fL_law_b1055 k18 X v3 q54.2) else (some ((0 : Int32), q54.2))) else none) else none) else none) else none) else none) else none) else none) else none
set_option maxRecDepth 100000 in
set_option maxHeartbeats 4000000 in
theorem wfL_law_b848 (X : Scr) (k18 : Int32 → Sto → Option (Int32 × Sto)) (hk18 : ∀ (v3 : Int32) (σ : Sto) (z : Int32 × Sto), k18 v3 σ = some z → Rt X RL cL_law 4 room_1 .ireturn 18 [(0, .ref 30), (1, .ref 0), (2, .ref 17), (3, .int v3)] [] σ (some (.int z.1)) z.2) (v3 : Int32) (σ : Sto) (z : Int32 × Sto) (h : fL_law_b848 k18 X v3 σ = some z) : Rt X RL cL_law 4 room_1 .ireturn 848 [(0, .ref 30), (1, .ref 0), (2, .ref 17), (3, .int v3)] [] σ (some (.int z.1)) z.2 := by
  unfold fL_law_b848 at h
  refine Rt.aload_n 1 dL_law_848 rfl ?_
  refine Rt.aload_n 0 dL_law_849 rfl ?_
  refine Rt.iload_n 3 dL_law_850 rfl ?_
  refine Rt.iconst 1 dL_law_851 (by decide) ?_
  refine Rt.iadd dL_law_852 ?_
  obtain ⟨g94, h⟩ := gd h
  refine Rt.ialdX g94 dL_law_853 ?_
  refine Rt.aload_n 0 dL_law_854 rfl ?_
  refine Rt.iload_n 3 dL_law_855 rfl ?_
  refine Rt.iconst 2 dL_law_856 (by decide) ?_
  refine Rt.iadd dL_law_857 ?_
  obtain ⟨g95, h⟩ := gd h
  refine Rt.ialdX g95 dL_law_858 ?_
  refine Rt.aload_n 0 dL_law_859 rfl ?_
  refine Rt.iload_n 3 dL_law_860 rfl ?_
  refine Rt.iconst 3 dL_law_861 (by decide) ?_
  refine Rt.iadd dL_law_862 ?_
  obtain ⟨g96, h⟩ := gd h
  refine Rt.ialdX g96 dL_law_863 ?_
  refine Rt.aload_n 0 dL_law_864 rfl ?_
  refine Rt.iload_n 3 dL_law_865 rfl ?_
  refine Rt.iconst 4 dL_law_866 (by decide) ?_
  refine Rt.iadd dL_law_867 ?_
  obtain ⟨g97, h⟩ := gd h
  refine Rt.ialdX g97 dL_law_868 ?_
  obtain ⟨q53, e53, h⟩ := bnd h
  refine Rt.cV (mfX3_grid (X.2 ((v3 + (1 : Int32))).toNatClampNeg) (X.2 ((v3 + (2 : Int32))).toNatClampNeg) (X.2 ((v3 + (3 : Int32))).toNatClampNeg) (X.2 ((v3 + (4 : Int32))).toNatClampNeg) _ q53 e53) lkL_122 ly0 rfl rfl rfl ⟨Nat.le_of_ble_eq_true rfl, Nat.le_of_ble_eq_true rfl⟩ (Nat.le_of_ble_eq_true rfl) rfl dL_law_869 ?_
  refine Rt.aload_n 2 dL_law_872 rfl ?_
  refine Rt.aload_n 0 dL_law_873 rfl ?_
  refine Rt.iload_n 3 dL_law_874 rfl ?_
  refine Rt.iconst 1 dL_law_875 (by decide) ?_
  refine Rt.iadd dL_law_876 ?_
  obtain ⟨g98, h⟩ := gd h
  refine Rt.ialdX g98 dL_law_877 ?_
  refine Rt.aload_n 0 dL_law_878 rfl ?_
  refine Rt.iload_n 3 dL_law_879 rfl ?_
  refine Rt.iconst 2 dL_law_880 (by decide) ?_
  refine Rt.iadd dL_law_881 ?_
  obtain ⟨g99, h⟩ := gd h
  refine Rt.ialdX g99 dL_law_882 ?_
  refine Rt.aload_n 0 dL_law_883 rfl ?_
  refine Rt.iload_n 3 dL_law_884 rfl ?_
  refine Rt.iconst 3 dL_law_885 (by decide) ?_
  refine Rt.iadd dL_law_886 ?_
  obtain ⟨g100, h⟩ := gd h
  refine Rt.ialdX g100 dL_law_887 ?_
  refine Rt.aload_n 0 dL_law_888 rfl ?_
  refine Rt.iload_n 3 dL_law_889 rfl ?_
  refine Rt.iconst 4 dL_law_890 (by decide) ?_
  refine Rt.iadd dL_law_891 ?_
  obtain ⟨g101, h⟩ := gd h
  refine Rt.ialdX g101 dL_law_892 ?_
  obtain ⟨q54, e54, h⟩ := bnd h
  refine Rt.cV (mfX4_grid (X.2 ((v3 + (1 : Int32))).toNatClampNeg) (X.2 ((v3 + (2 : Int32))).toNatClampNeg) (X.2 ((v3 + (3 : Int32))).toNatClampNeg) (X.2 ((v3 + (4 : Int32))).toNatClampNeg) _ q54 e54) lkL_126 ly17 rfl rfl rfl ⟨Nat.le_of_ble_eq_true rfl, Nat.le_of_ble_eq_true rfl⟩ (Nat.le_of_ble_eq_true rfl) rfl dL_law_893 ?_
  refine Rt.icmp_eq 1055 dL_law_896 (by decide) (fun c102 => ?_) (fun c102 => ?_)
  · replace h := (if_pos c102).symm.trans h
    exact wfL_law_b1055 X k18 hk18 v3 _ z h
  · replace h := (if_neg c102).symm.trans h
    refine Rt.iconst 0 dL_law_899 (by decide) ?_
    obtain rfl := Option.some.inj h
    exact Rt.ret (v := some (.int (0 : Int32))) dL_law_900 rfl rfl rfl
def fL_law_b901 (k18 : Int32 → Sto → Option (Int32 × Sto)) (X : Scr) (v3 : Int32) (σ : Sto) : Option (Int32 × Sto) := (fX3_taught σ).bind fun q55 => (fX4_taught q55.2).bind fun q56 => if q55.1 = q56.1 then (fL_law_b1055 k18 X v3 q56.2) else (some ((0 : Int32), q56.2))
set_option maxRecDepth 100000 in
set_option maxHeartbeats 4000000 in
theorem wfL_law_b901 (X : Scr) (k18 : Int32 → Sto → Option (Int32 × Sto)) (hk18 : ∀ (v3 : Int32) (σ : Sto) (z : Int32 × Sto), k18 v3 σ = some z → Rt X RL cL_law 4 room_1 .ireturn 18 [(0, .ref 30), (1, .ref 0), (2, .ref 17), (3, .int v3)] [] σ (some (.int z.1)) z.2) (v3 : Int32) (σ : Sto) (z : Int32 × Sto) (h : fL_law_b901 k18 X v3 σ = some z) : Rt X RL cL_law 4 room_1 .ireturn 901 [(0, .ref 30), (1, .ref 0), (2, .ref 17), (3, .int v3)] [] σ (some (.int z.1)) z.2 := by
  unfold fL_law_b901 at h
  refine Rt.aload_n 1 dL_law_901 rfl ?_
  obtain ⟨q55, e55, h⟩ := bnd h
  refine Rt.cV (mfX3_taught _ q55 e55) lkL_127 ly0 rfl rfl rfl ⟨Nat.le_of_ble_eq_true rfl, Nat.le_of_ble_eq_true rfl⟩ (Nat.le_of_ble_eq_true rfl) rfl dL_law_902 ?_
  refine Rt.aload_n 2 dL_law_905 rfl ?_
  obtain ⟨q56, e56, h⟩ := bnd h
  refine Rt.cV (mfX4_taught _ q56 e56) lkL_130 ly17 rfl rfl rfl ⟨Nat.le_of_ble_eq_true rfl, Nat.le_of_ble_eq_true rfl⟩ (Nat.le_of_ble_eq_true rfl) rfl dL_law_906 ?_
  refine Rt.icmp_eq 1055 dL_law_909 (by decide) (fun c103 => ?_) (fun c103 => ?_)
  · replace h := (if_pos c103).symm.trans h
    exact wfL_law_b1055 X k18 hk18 v3 _ z h
  · replace h := (if_neg c103).symm.trans h
    refine Rt.iconst 0 dL_law_912 (by decide) ?_
    obtain rfl := Option.some.inj h
    exact Rt.ret (v := some (.int (0 : Int32))) dL_law_913 rfl rfl rfl
def fL_law_b914 (k18 : Int32 → Sto → Option (Int32 × Sto)) (X : Scr) (v3 : Int32) (σ : Sto) : Option (Int32 × Sto) := if inb (v3 + (1 : Int32)) X.1 = true then ((fX3_row (X.2 ((v3 + (1 : Int32))).toNatClampNeg) σ).bind fun q57 => if inb (v3 + (1 : Int32)) X.1 = true then ((fX4_row (X.2 ((v3 + (1 : Int32))).toNatClampNeg) q57.2).bind fun q58 => if q57.1 = q58.1 then (fL_law_b1055 k18 X v3 q58.2) else (some ((0 : Int32), q58.2))) else none) else none
set_option maxRecDepth 100000 in
set_option maxHeartbeats 4000000 in
theorem wfL_law_b914 (X : Scr) (k18 : Int32 → Sto → Option (Int32 × Sto)) (hk18 : ∀ (v3 : Int32) (σ : Sto) (z : Int32 × Sto), k18 v3 σ = some z → Rt X RL cL_law 4 room_1 .ireturn 18 [(0, .ref 30), (1, .ref 0), (2, .ref 17), (3, .int v3)] [] σ (some (.int z.1)) z.2) (v3 : Int32) (σ : Sto) (z : Int32 × Sto) (h : fL_law_b914 k18 X v3 σ = some z) : Rt X RL cL_law 4 room_1 .ireturn 914 [(0, .ref 30), (1, .ref 0), (2, .ref 17), (3, .int v3)] [] σ (some (.int z.1)) z.2 := by
  unfold fL_law_b914 at h
  refine Rt.aload_n 1 dL_law_914 rfl ?_
  refine Rt.aload_n 0 dL_law_915 rfl ?_
  refine Rt.iload_n 3 dL_law_916 rfl ?_
  refine Rt.iconst 1 dL_law_917 (by decide) ?_
  refine Rt.iadd dL_law_918 ?_
  obtain ⟨g104, h⟩ := gd h
  refine Rt.ialdX g104 dL_law_919 ?_
  obtain ⟨q57, e57, h⟩ := bnd h
  refine Rt.cV (mfX3_row (X.2 ((v3 + (1 : Int32))).toNatClampNeg) _ q57 e57) lkL_131 ly0 rfl rfl rfl ⟨Nat.le_of_ble_eq_true rfl, Nat.le_of_ble_eq_true rfl⟩ (Nat.le_of_ble_eq_true rfl) rfl dL_law_920 ?_
  refine Rt.aload_n 2 dL_law_923 rfl ?_
  refine Rt.aload_n 0 dL_law_924 rfl ?_
  refine Rt.iload_n 3 dL_law_925 rfl ?_
  refine Rt.iconst 1 dL_law_926 (by decide) ?_
  refine Rt.iadd dL_law_927 ?_
  obtain ⟨g105, h⟩ := gd h
  refine Rt.ialdX g105 dL_law_928 ?_
  obtain ⟨q58, e58, h⟩ := bnd h
  refine Rt.cV (mfX4_row (X.2 ((v3 + (1 : Int32))).toNatClampNeg) _ q58 e58) lkL_134 ly17 rfl rfl rfl ⟨Nat.le_of_ble_eq_true rfl, Nat.le_of_ble_eq_true rfl⟩ (Nat.le_of_ble_eq_true rfl) rfl dL_law_929 ?_
  refine Rt.icmp_eq 1055 dL_law_932 (by decide) (fun c106 => ?_) (fun c106 => ?_)
  · replace h := (if_pos c106).symm.trans h
    exact wfL_law_b1055 X k18 hk18 v3 _ z h
  · replace h := (if_neg c106).symm.trans h
    refine Rt.iconst 0 dL_law_935 (by decide) ?_
    obtain rfl := Option.some.inj h
    exact Rt.ret (v := some (.int (0 : Int32))) dL_law_936 rfl rfl rfl
def fL_law_b937 (k18 : Int32 → Sto → Option (Int32 × Sto)) (X : Scr) (v3 : Int32) (σ : Sto) : Option (Int32 × Sto) := (fX3_kinds σ).bind fun q59 => (fX4_kinds q59.2).bind fun q60 => if q59.1 = q60.1 then (fL_law_b1055 k18 X v3 q60.2) else (some ((0 : Int32), q60.2))
set_option maxRecDepth 100000 in
set_option maxHeartbeats 4000000 in
theorem wfL_law_b937 (X : Scr) (k18 : Int32 → Sto → Option (Int32 × Sto)) (hk18 : ∀ (v3 : Int32) (σ : Sto) (z : Int32 × Sto), k18 v3 σ = some z → Rt X RL cL_law 4 room_1 .ireturn 18 [(0, .ref 30), (1, .ref 0), (2, .ref 17), (3, .int v3)] [] σ (some (.int z.1)) z.2) (v3 : Int32) (σ : Sto) (z : Int32 × Sto) (h : fL_law_b937 k18 X v3 σ = some z) : Rt X RL cL_law 4 room_1 .ireturn 937 [(0, .ref 30), (1, .ref 0), (2, .ref 17), (3, .int v3)] [] σ (some (.int z.1)) z.2 := by
  unfold fL_law_b937 at h
  refine Rt.aload_n 1 dL_law_937 rfl ?_
  obtain ⟨q59, e59, h⟩ := bnd h
  refine Rt.cV (mfX3_kinds _ q59 e59) lkL_135 ly0 rfl rfl rfl ⟨Nat.le_of_ble_eq_true rfl, Nat.le_of_ble_eq_true rfl⟩ (Nat.le_of_ble_eq_true rfl) rfl dL_law_938 ?_
  refine Rt.aload_n 2 dL_law_941 rfl ?_
  obtain ⟨q60, e60, h⟩ := bnd h
  refine Rt.cV (mfX4_kinds _ q60 e60) lkL_138 ly17 rfl rfl rfl ⟨Nat.le_of_ble_eq_true rfl, Nat.le_of_ble_eq_true rfl⟩ (Nat.le_of_ble_eq_true rfl) rfl dL_law_942 ?_
  refine Rt.icmp_eq 1055 dL_law_945 (by decide) (fun c107 => ?_) (fun c107 => ?_)
  · replace h := (if_pos c107).symm.trans h
    exact wfL_law_b1055 X k18 hk18 v3 _ z h
  · replace h := (if_neg c107).symm.trans h
    refine Rt.iconst 0 dL_law_948 (by decide) ?_
    obtain rfl := Option.some.inj h
    exact Rt.ret (v := some (.int (0 : Int32))) dL_law_949 rfl rfl rfl
def fL_law_b950 (k18 : Int32 → Sto → Option (Int32 × Sto)) (X : Scr) (v3 : Int32) (σ : Sto) : Option (Int32 × Sto) := (fX3_judge σ).bind fun q61 => (fX4_judge q61.2).bind fun q62 => if q61.1 = q62.1 then (fL_law_b1055 k18 X v3 q62.2) else (some ((0 : Int32), q62.2))
set_option maxRecDepth 100000 in
set_option maxHeartbeats 4000000 in
theorem wfL_law_b950 (X : Scr) (k18 : Int32 → Sto → Option (Int32 × Sto)) (hk18 : ∀ (v3 : Int32) (σ : Sto) (z : Int32 × Sto), k18 v3 σ = some z → Rt X RL cL_law 4 room_1 .ireturn 18 [(0, .ref 30), (1, .ref 0), (2, .ref 17), (3, .int v3)] [] σ (some (.int z.1)) z.2) (v3 : Int32) (σ : Sto) (z : Int32 × Sto) (h : fL_law_b950 k18 X v3 σ = some z) : Rt X RL cL_law 4 room_1 .ireturn 950 [(0, .ref 30), (1, .ref 0), (2, .ref 17), (3, .int v3)] [] σ (some (.int z.1)) z.2 := by
  unfold fL_law_b950 at h
  refine Rt.aload_n 1 dL_law_950 rfl ?_
  obtain ⟨q61, e61, h⟩ := bnd h
  refine Rt.cV (mfX3_judge _ q61 e61) lkL_139 ly0 rfl rfl rfl ⟨Nat.le_of_ble_eq_true rfl, Nat.le_of_ble_eq_true rfl⟩ (Nat.le_of_ble_eq_true rfl) rfl dL_law_951 ?_
  refine Rt.aload_n 2 dL_law_954 rfl ?_
  obtain ⟨q62, e62, h⟩ := bnd h
  refine Rt.cV (mfX4_judge _ q62 e62) lkL_142 ly17 rfl rfl rfl ⟨Nat.le_of_ble_eq_true rfl, Nat.le_of_ble_eq_true rfl⟩ (Nat.le_of_ble_eq_true rfl) rfl dL_law_955 ?_
  refine Rt.icmp_eq 1055 dL_law_958 (by decide) (fun c108 => ?_) (fun c108 => ?_)
  · replace h := (if_pos c108).symm.trans h
    exact wfL_law_b1055 X k18 hk18 v3 _ z h
  · replace h := (if_neg c108).symm.trans h
    refine Rt.iconst 0 dL_law_961 (by decide) ?_
    obtain rfl := Option.some.inj h
    exact Rt.ret (v := some (.int (0 : Int32))) dL_law_962 rfl rfl rfl
def fL_law_b963 (k18 : Int32 → Sto → Option (Int32 × Sto)) (X : Scr) (v3 : Int32) (σ : Sto) : Option (Int32 × Sto) := if inb (v3 + (1 : Int32)) X.1 = true then (if inb (v3 + (2 : Int32)) X.1 = true then (if inb (v3 + (3 : Int32)) X.1 = true then ((fX3_evenings (X.2 ((v3 + (1 : Int32))).toNatClampNeg) (X.2 ((v3 + (2 : Int32))).toNatClampNeg) (X.2 ((v3 + (3 : Int32))).toNatClampNeg) σ).bind fun q63 => if inb (v3 + (1 : Int32)) X.1 = true then (if inb (v3 + (2 : Int32)) X.1 = true then (if inb (v3 + (3 : Int32)) X.1 = true then ((fX4_evenings (X.2 ((v3 + (1 : Int32))).toNatClampNeg) (X.2 ((v3 + (2 : Int32))).toNatClampNeg) (X.2 ((v3 + (3 : Int32))).toNatClampNeg) q63.2).bind fun q64 => if q63.1 = q64.1 then (fL_law_b1055 k18 X v3 q64.2) else (some ((0 : Int32), q64.2))) else none) else none) else none) else none) else none) else none
set_option maxRecDepth 100000 in
set_option maxHeartbeats 4000000 in
theorem wfL_law_b963 (X : Scr) (k18 : Int32 → Sto → Option (Int32 × Sto)) (hk18 : ∀ (v3 : Int32) (σ : Sto) (z : Int32 × Sto), k18 v3 σ = some z → Rt X RL cL_law 4 room_1 .ireturn 18 [(0, .ref 30), (1, .ref 0), (2, .ref 17), (3, .int v3)] [] σ (some (.int z.1)) z.2) (v3 : Int32) (σ : Sto) (z : Int32 × Sto) (h : fL_law_b963 k18 X v3 σ = some z) : Rt X RL cL_law 4 room_1 .ireturn 963 [(0, .ref 30), (1, .ref 0), (2, .ref 17), (3, .int v3)] [] σ (some (.int z.1)) z.2 := by
  unfold fL_law_b963 at h
  refine Rt.aload_n 1 dL_law_963 rfl ?_
  refine Rt.aload_n 0 dL_law_964 rfl ?_
  refine Rt.iload_n 3 dL_law_965 rfl ?_
  refine Rt.iconst 1 dL_law_966 (by decide) ?_
  refine Rt.iadd dL_law_967 ?_
  obtain ⟨g109, h⟩ := gd h
  refine Rt.ialdX g109 dL_law_968 ?_
  refine Rt.aload_n 0 dL_law_969 rfl ?_
  refine Rt.iload_n 3 dL_law_970 rfl ?_
  refine Rt.iconst 2 dL_law_971 (by decide) ?_
  refine Rt.iadd dL_law_972 ?_
  obtain ⟨g110, h⟩ := gd h
  refine Rt.ialdX g110 dL_law_973 ?_
  refine Rt.aload_n 0 dL_law_974 rfl ?_
  refine Rt.iload_n 3 dL_law_975 rfl ?_
  refine Rt.iconst 3 dL_law_976 (by decide) ?_
  refine Rt.iadd dL_law_977 ?_
  obtain ⟨g111, h⟩ := gd h
  refine Rt.ialdX g111 dL_law_978 ?_
  obtain ⟨q63, e63, h⟩ := bnd h
  refine Rt.cV (mfX3_evenings (X.2 ((v3 + (1 : Int32))).toNatClampNeg) (X.2 ((v3 + (2 : Int32))).toNatClampNeg) (X.2 ((v3 + (3 : Int32))).toNatClampNeg) _ q63 e63) lkL_143 ly0 rfl rfl rfl ⟨Nat.le_of_ble_eq_true rfl, Nat.le_of_ble_eq_true rfl⟩ (Nat.le_of_ble_eq_true rfl) rfl dL_law_979 ?_
  refine Rt.aload_n 2 dL_law_982 rfl ?_
  refine Rt.aload_n 0 dL_law_983 rfl ?_
  refine Rt.iload_n 3 dL_law_984 rfl ?_
  refine Rt.iconst 1 dL_law_985 (by decide) ?_
  refine Rt.iadd dL_law_986 ?_
  obtain ⟨g112, h⟩ := gd h
  refine Rt.ialdX g112 dL_law_987 ?_
  refine Rt.aload_n 0 dL_law_988 rfl ?_
  refine Rt.iload_n 3 dL_law_989 rfl ?_
  refine Rt.iconst 2 dL_law_990 (by decide) ?_
  refine Rt.iadd dL_law_991 ?_
  obtain ⟨g113, h⟩ := gd h
  refine Rt.ialdX g113 dL_law_992 ?_
  refine Rt.aload_n 0 dL_law_993 rfl ?_
  refine Rt.iload_n 3 dL_law_994 rfl ?_
  refine Rt.iconst 3 dL_law_995 (by decide) ?_
  refine Rt.iadd dL_law_996 ?_
  obtain ⟨g114, h⟩ := gd h
  refine Rt.ialdX g114 dL_law_997 ?_
  obtain ⟨q64, e64, h⟩ := bnd h
  refine Rt.cV (mfX4_evenings (X.2 ((v3 + (1 : Int32))).toNatClampNeg) (X.2 ((v3 + (2 : Int32))).toNatClampNeg) (X.2 ((v3 + (3 : Int32))).toNatClampNeg) _ q64 e64) lkL_146 ly17 rfl rfl rfl ⟨Nat.le_of_ble_eq_true rfl, Nat.le_of_ble_eq_true rfl⟩ (Nat.le_of_ble_eq_true rfl) rfl dL_law_998 ?_
  refine Rt.icmp_eq 1055 dL_law_1001 (by decide) (fun c115 => ?_) (fun c115 => ?_)
  · replace h := (if_pos c115).symm.trans h
    exact wfL_law_b1055 X k18 hk18 v3 _ z h
  · replace h := (if_neg c115).symm.trans h
    refine Rt.iconst 0 dL_law_1004 (by decide) ?_
    obtain rfl := Option.some.inj h
    exact Rt.ret (v := some (.int (0 : Int32))) dL_law_1005 rfl rfl rfl
def fL_law_b1006 (k18 : Int32 → Sto → Option (Int32 × Sto)) (X : Scr) (v3 : Int32) (σ : Sto) : Option (Int32 × Sto) := (fX3_image σ).bind fun q65 => (fX4_image q65.2).bind fun q66 => if q65.1 = q66.1 then (fL_law_b1055 k18 X v3 q66.2) else (some ((0 : Int32), q66.2))
set_option maxRecDepth 100000 in
set_option maxHeartbeats 4000000 in
theorem wfL_law_b1006 (X : Scr) (k18 : Int32 → Sto → Option (Int32 × Sto)) (hk18 : ∀ (v3 : Int32) (σ : Sto) (z : Int32 × Sto), k18 v3 σ = some z → Rt X RL cL_law 4 room_1 .ireturn 18 [(0, .ref 30), (1, .ref 0), (2, .ref 17), (3, .int v3)] [] σ (some (.int z.1)) z.2) (v3 : Int32) (σ : Sto) (z : Int32 × Sto) (h : fL_law_b1006 k18 X v3 σ = some z) : Rt X RL cL_law 4 room_1 .ireturn 1006 [(0, .ref 30), (1, .ref 0), (2, .ref 17), (3, .int v3)] [] σ (some (.int z.1)) z.2 := by
  unfold fL_law_b1006 at h
  refine Rt.aload_n 1 dL_law_1006 rfl ?_
  obtain ⟨q65, e65, h⟩ := bnd h
  refine Rt.cV (mfX3_image _ q65 e65) lkL_147 ly0 rfl rfl rfl ⟨Nat.le_of_ble_eq_true rfl, Nat.le_of_ble_eq_true rfl⟩ (Nat.le_of_ble_eq_true rfl) rfl dL_law_1007 ?_
  refine Rt.aload_n 2 dL_law_1010 rfl ?_
  obtain ⟨q66, e66, h⟩ := bnd h
  refine Rt.cV (mfX4_image _ q66 e66) lkL_150 ly17 rfl rfl rfl ⟨Nat.le_of_ble_eq_true rfl, Nat.le_of_ble_eq_true rfl⟩ (Nat.le_of_ble_eq_true rfl) rfl dL_law_1011 ?_
  refine Rt.icmp_eq 1055 dL_law_1014 (by decide) (fun c116 => ?_) (fun c116 => ?_)
  · replace h := (if_pos c116).symm.trans h
    exact wfL_law_b1055 X k18 hk18 v3 _ z h
  · replace h := (if_neg c116).symm.trans h
    refine Rt.iconst 0 dL_law_1017 (by decide) ?_
    obtain rfl := Option.some.inj h
    exact Rt.ret (v := some (.int (0 : Int32))) dL_law_1018 rfl rfl rfl
def fL_law_b1019 (k18 : Int32 → Sto → Option (Int32 × Sto)) (X : Scr) (v3 : Int32) (σ : Sto) : Option (Int32 × Sto) := (fX3_on σ).bind fun q67 => (fX4_on q67.2).bind fun q68 => if q67.1 = q68.1 then (fL_law_b1055 k18 X v3 q68.2) else (some ((0 : Int32), q68.2))
set_option maxRecDepth 100000 in
set_option maxHeartbeats 4000000 in
theorem wfL_law_b1019 (X : Scr) (k18 : Int32 → Sto → Option (Int32 × Sto)) (hk18 : ∀ (v3 : Int32) (σ : Sto) (z : Int32 × Sto), k18 v3 σ = some z → Rt X RL cL_law 4 room_1 .ireturn 18 [(0, .ref 30), (1, .ref 0), (2, .ref 17), (3, .int v3)] [] σ (some (.int z.1)) z.2) (v3 : Int32) (σ : Sto) (z : Int32 × Sto) (h : fL_law_b1019 k18 X v3 σ = some z) : Rt X RL cL_law 4 room_1 .ireturn 1019 [(0, .ref 30), (1, .ref 0), (2, .ref 17), (3, .int v3)] [] σ (some (.int z.1)) z.2 := by
  unfold fL_law_b1019 at h
  refine Rt.aload_n 1 dL_law_1019 rfl ?_
  obtain ⟨q67, e67, h⟩ := bnd h
  refine Rt.cV (mfX3_on _ q67 e67) lkL_151 ly0 rfl rfl rfl ⟨Nat.le_of_ble_eq_true rfl, Nat.le_of_ble_eq_true rfl⟩ (Nat.le_of_ble_eq_true rfl) rfl dL_law_1020 ?_
  refine Rt.aload_n 2 dL_law_1023 rfl ?_
  obtain ⟨q68, e68, h⟩ := bnd h
  refine Rt.cV (mfX4_on _ q68 e68) lkL_154 ly17 rfl rfl rfl ⟨Nat.le_of_ble_eq_true rfl, Nat.le_of_ble_eq_true rfl⟩ (Nat.le_of_ble_eq_true rfl) rfl dL_law_1024 ?_
  refine Rt.icmp_eq 1055 dL_law_1027 (by decide) (fun c117 => ?_) (fun c117 => ?_)
  · replace h := (if_pos c117).symm.trans h
    exact wfL_law_b1055 X k18 hk18 v3 _ z h
  · replace h := (if_neg c117).symm.trans h
    refine Rt.iconst 0 dL_law_1030 (by decide) ?_
    obtain rfl := Option.some.inj h
    exact Rt.ret (v := some (.int (0 : Int32))) dL_law_1031 rfl rfl rfl
def fL_law_b1032 (k18 : Int32 → Sto → Option (Int32 × Sto)) (X : Scr) (v3 : Int32) (σ : Sto) : Option (Int32 × Sto) := if inb (v3 + (1 : Int32)) X.1 = true then ((fX3_count (X.2 ((v3 + (1 : Int32))).toNatClampNeg) σ).bind fun q69 => if inb (v3 + (1 : Int32)) X.1 = true then ((fX4_count (X.2 ((v3 + (1 : Int32))).toNatClampNeg) q69.2).bind fun q70 => if q69.1 = q70.1 then (fL_law_b1055 k18 X v3 q70.2) else (some ((0 : Int32), q70.2))) else none) else none
set_option maxRecDepth 100000 in
set_option maxHeartbeats 4000000 in
theorem wfL_law_b1032 (X : Scr) (k18 : Int32 → Sto → Option (Int32 × Sto)) (hk18 : ∀ (v3 : Int32) (σ : Sto) (z : Int32 × Sto), k18 v3 σ = some z → Rt X RL cL_law 4 room_1 .ireturn 18 [(0, .ref 30), (1, .ref 0), (2, .ref 17), (3, .int v3)] [] σ (some (.int z.1)) z.2) (v3 : Int32) (σ : Sto) (z : Int32 × Sto) (h : fL_law_b1032 k18 X v3 σ = some z) : Rt X RL cL_law 4 room_1 .ireturn 1032 [(0, .ref 30), (1, .ref 0), (2, .ref 17), (3, .int v3)] [] σ (some (.int z.1)) z.2 := by
  unfold fL_law_b1032 at h
  refine Rt.aload_n 1 dL_law_1032 rfl ?_
  refine Rt.aload_n 0 dL_law_1033 rfl ?_
  refine Rt.iload_n 3 dL_law_1034 rfl ?_
  refine Rt.iconst 1 dL_law_1035 (by decide) ?_
  refine Rt.iadd dL_law_1036 ?_
  obtain ⟨g118, h⟩ := gd h
  refine Rt.ialdX g118 dL_law_1037 ?_
  obtain ⟨q69, e69, h⟩ := bnd h
  refine Rt.cV (mfX3_count (X.2 ((v3 + (1 : Int32))).toNatClampNeg) _ q69 e69) lkL_155 ly0 rfl rfl rfl ⟨Nat.le_of_ble_eq_true rfl, Nat.le_of_ble_eq_true rfl⟩ (Nat.le_of_ble_eq_true rfl) rfl dL_law_1038 ?_
  refine Rt.aload_n 2 dL_law_1041 rfl ?_
  refine Rt.aload_n 0 dL_law_1042 rfl ?_
  refine Rt.iload_n 3 dL_law_1043 rfl ?_
  refine Rt.iconst 1 dL_law_1044 (by decide) ?_
  refine Rt.iadd dL_law_1045 ?_
  obtain ⟨g119, h⟩ := gd h
  refine Rt.ialdX g119 dL_law_1046 ?_
  obtain ⟨q70, e70, h⟩ := bnd h
  refine Rt.cV (mfX4_count (X.2 ((v3 + (1 : Int32))).toNatClampNeg) _ q70 e70) lkL_158 ly17 rfl rfl rfl ⟨Nat.le_of_ble_eq_true rfl, Nat.le_of_ble_eq_true rfl⟩ (Nat.le_of_ble_eq_true rfl) rfl dL_law_1047 ?_
  refine Rt.icmp_eq 1055 dL_law_1050 (by decide) (fun c120 => ?_) (fun c120 => ?_)
  · replace h := (if_pos c120).symm.trans h
    exact wfL_law_b1055 X k18 hk18 v3 _ z h
  · replace h := (if_neg c120).symm.trans h
    refine Rt.iconst 0 dL_law_1053 (by decide) ?_
    obtain rfl := Option.some.inj h
    exact Rt.ret (v := some (.int (0 : Int32))) dL_law_1054 rfl rfl rfl
def fL_law_l18 (X : Scr) : Nat → Int32 → Sto → Option (Int32 × Sto)
  | 0, _, _ => none
  | n + 1, v3, σ => if ((Int32.ofNat X.1) - (5 : Int32)) < v3 then (some ((1 : Int32), σ)) else (if inb v3 X.1 = true then (if ((X.2 (v3).toNatClampNeg) &&& (63 : Int32)) = 0 then (fL_law_b188 (fun a0 s => fL_law_l18 X n a0 s) X v3 σ) else (if ((X.2 (v3).toNatClampNeg) &&& (63 : Int32)) = 1 then (fL_law_b211 (fun a0 s => fL_law_l18 X n a0 s) X v3 σ) else (if ((X.2 (v3).toNatClampNeg) &&& (63 : Int32)) = 2 then (fL_law_b224 (fun a0 s => fL_law_l18 X n a0 s) X v3 σ) else (if ((X.2 (v3).toNatClampNeg) &&& (63 : Int32)) = 3 then (fL_law_b247 (fun a0 s => fL_law_l18 X n a0 s) X v3 σ) else (if ((X.2 (v3).toNatClampNeg) &&& (63 : Int32)) = 4 then (fL_law_b270 (fun a0 s => fL_law_l18 X n a0 s) X v3 σ) else (if ((X.2 (v3).toNatClampNeg) &&& (63 : Int32)) = 5 then (fL_law_b293 (fun a0 s => fL_law_l18 X n a0 s) X v3 σ) else (if ((X.2 (v3).toNatClampNeg) &&& (63 : Int32)) = 6 then (fL_law_b326 (fun a0 s => fL_law_l18 X n a0 s) X v3 σ) else (if ((X.2 (v3).toNatClampNeg) &&& (63 : Int32)) = 7 then (fL_law_b349 (fun a0 s => fL_law_l18 X n a0 s) X v3 σ) else (if ((X.2 (v3).toNatClampNeg) &&& (63 : Int32)) = 8 then (fL_law_b382 (fun a0 s => fL_law_l18 X n a0 s) X v3 σ) else (if ((X.2 (v3).toNatClampNeg) &&& (63 : Int32)) = 9 then (fL_law_b395 (fun a0 s => fL_law_l18 X n a0 s) X v3 σ) else (if ((X.2 (v3).toNatClampNeg) &&& (63 : Int32)) = 10 then (fL_law_b428 (fun a0 s => fL_law_l18 X n a0 s) X v3 σ) else (if ((X.2 (v3).toNatClampNeg) &&& (63 : Int32)) = 11 then (fL_law_b461 (fun a0 s => fL_law_l18 X n a0 s) X v3 σ) else (if ((X.2 (v3).toNatClampNeg) &&& (63 : Int32)) = 12 then (fL_law_b504 (fun a0 s => fL_law_l18 X n a0 s) X v3 σ) else (if ((X.2 (v3).toNatClampNeg) &&& (63 : Int32)) = 13 then (fL_law_b527 (fun a0 s => fL_law_l18 X n a0 s) X v3 σ) else (if ((X.2 (v3).toNatClampNeg) &&& (63 : Int32)) = 14 then (fL_law_b561 (fun a0 s => fL_law_l18 X n a0 s) X v3 σ) else (if ((X.2 (v3).toNatClampNeg) &&& (63 : Int32)) = 15 then (fL_law_b584 (fun a0 s => fL_law_l18 X n a0 s) X v3 σ) else (if ((X.2 (v3).toNatClampNeg) &&& (63 : Int32)) = 16 then (fL_law_b617 (fun a0 s => fL_law_l18 X n a0 s) X v3 σ) else (if ((X.2 (v3).toNatClampNeg) &&& (63 : Int32)) = 17 then (fL_law_b650 (fun a0 s => fL_law_l18 X n a0 s) X v3 σ) else (if ((X.2 (v3).toNatClampNeg) &&& (63 : Int32)) = 18 then (fL_law_b663 (fun a0 s => fL_law_l18 X n a0 s) X v3 σ) else (if ((X.2 (v3).toNatClampNeg) &&& (63 : Int32)) = 19 then (fL_law_b686 (fun a0 s => fL_law_l18 X n a0 s) X v3 σ) else (if ((X.2 (v3).toNatClampNeg) &&& (63 : Int32)) = 20 then (fL_law_b699 (fun a0 s => fL_law_l18 X n a0 s) X v3 σ) else (if ((X.2 (v3).toNatClampNeg) &&& (63 : Int32)) = 21 then (fL_law_b733 (fun a0 s => fL_law_l18 X n a0 s) X v3 σ) else (if ((X.2 (v3).toNatClampNeg) &&& (63 : Int32)) = 22 then (fL_law_b756 (fun a0 s => fL_law_l18 X n a0 s) X v3 σ) else (if ((X.2 (v3).toNatClampNeg) &&& (63 : Int32)) = 23 then (fL_law_b779 (fun a0 s => fL_law_l18 X n a0 s) X v3 σ) else (if ((X.2 (v3).toNatClampNeg) &&& (63 : Int32)) = 24 then (fL_law_b792 (fun a0 s => fL_law_l18 X n a0 s) X v3 σ) else (if ((X.2 (v3).toNatClampNeg) &&& (63 : Int32)) = 25 then (fL_law_b815 (fun a0 s => fL_law_l18 X n a0 s) X v3 σ) else (if ((X.2 (v3).toNatClampNeg) &&& (63 : Int32)) = 26 then (fL_law_b848 (fun a0 s => fL_law_l18 X n a0 s) X v3 σ) else (if ((X.2 (v3).toNatClampNeg) &&& (63 : Int32)) = 27 then (fL_law_b901 (fun a0 s => fL_law_l18 X n a0 s) X v3 σ) else (if ((X.2 (v3).toNatClampNeg) &&& (63 : Int32)) = 28 then (fL_law_b914 (fun a0 s => fL_law_l18 X n a0 s) X v3 σ) else (if ((X.2 (v3).toNatClampNeg) &&& (63 : Int32)) = 29 then (fL_law_b937 (fun a0 s => fL_law_l18 X n a0 s) X v3 σ) else (if ((X.2 (v3).toNatClampNeg) &&& (63 : Int32)) = 30 then (fL_law_b950 (fun a0 s => fL_law_l18 X n a0 s) X v3 σ) else (if ((X.2 (v3).toNatClampNeg) &&& (63 : Int32)) = 31 then (fL_law_b963 (fun a0 s => fL_law_l18 X n a0 s) X v3 σ) else (if ((X.2 (v3).toNatClampNeg) &&& (63 : Int32)) = 32 then (fL_law_b1006 (fun a0 s => fL_law_l18 X n a0 s) X v3 σ) else (if ((X.2 (v3).toNatClampNeg) &&& (63 : Int32)) = 33 then (fL_law_b1019 (fun a0 s => fL_law_l18 X n a0 s) X v3 σ) else (if ((X.2 (v3).toNatClampNeg) &&& (63 : Int32)) = 34 then (fL_law_b1032 (fun a0 s => fL_law_l18 X n a0 s) X v3 σ) else (fL_law_b1055 (fun a0 s => fL_law_l18 X n a0 s) X v3 σ)))))))))))))))))))))))))))))))))))) else none)
set_option maxRecDepth 100000 in
set_option maxHeartbeats 4000000 in
theorem wfL_law_l18 (X : Scr) : ∀ (n : Nat) (v3 : Int32) (σ : Sto) (z : Int32 × Sto), fL_law_l18 X n v3 σ = some z → Rt X RL cL_law 4 room_1 .ireturn 18 [(0, .ref 30), (1, .ref 0), (2, .ref 17), (3, .int v3)] [] σ (some (.int z.1)) z.2 := by
  intro n
  induction n with
  | zero =>
    intro v3 σ z h
    rw [fL_law_l18] at h
    cases h
  | succ n ih =>
    intro v3 σ z h
    rw [fL_law_l18] at h
    refine Rt.iload_n 3 dL_law_18 rfl ?_
    refine Rt.aload_n 0 dL_law_19 rfl ?_
    refine Rt.alenX dL_law_20 ?_
    refine Rt.iconst 5 dL_law_21 (by decide) ?_
    refine Rt.isub dL_law_22 ?_
    refine Rt.icmp_gt 1061 dL_law_23 (by decide) (fun c1 => ?_) (fun c1 => ?_)
    · replace h := (if_pos c1).symm.trans h
      refine Rt.iconst 1 dL_law_1061 (by decide) ?_
      obtain rfl := Option.some.inj h
      exact Rt.ret (v := some (.int (1 : Int32))) dL_law_1062 rfl rfl rfl
    · replace h := (if_neg c1).symm.trans h
      refine Rt.aload_n 0 dL_law_26 rfl ?_
      refine Rt.iload_n 3 dL_law_27 rfl ?_
      obtain ⟨g2, h⟩ := gd h
      refine Rt.ialdX g2 dL_law_28 ?_
      refine Rt.bipush 63 dL_law_29 (by decide) ?_
      refine Rt.iand dL_law_31 ?_
      by_cases sw3_0 : ((X.2 (v3).toNatClampNeg) &&& (63 : Int32)) = 0
      · replace h := (if_pos sw3_0).symm.trans h
        refine Rt.tsIn 188 dL_law_32 (by rw [sw3_0] <;> decide) (by rw [sw3_0] <;> decide) (by rw [sw3_0] <;> rfl) (by decide) ?_
        exact wfL_law_b188 X (fun a0 s => fL_law_l18 X n a0 s) ih v3 _ z h
      · replace h := (if_neg sw3_0).symm.trans h
        by_cases sw3_1 : ((X.2 (v3).toNatClampNeg) &&& (63 : Int32)) = 1
        · replace h := (if_pos sw3_1).symm.trans h
          refine Rt.tsIn 211 dL_law_32 (by rw [sw3_1] <;> decide) (by rw [sw3_1] <;> decide) (by rw [sw3_1] <;> rfl) (by decide) ?_
          exact wfL_law_b211 X (fun a0 s => fL_law_l18 X n a0 s) ih v3 _ z h
        · replace h := (if_neg sw3_1).symm.trans h
          by_cases sw3_2 : ((X.2 (v3).toNatClampNeg) &&& (63 : Int32)) = 2
          · replace h := (if_pos sw3_2).symm.trans h
            refine Rt.tsIn 224 dL_law_32 (by rw [sw3_2] <;> decide) (by rw [sw3_2] <;> decide) (by rw [sw3_2] <;> rfl) (by decide) ?_
            exact wfL_law_b224 X (fun a0 s => fL_law_l18 X n a0 s) ih v3 _ z h
          · replace h := (if_neg sw3_2).symm.trans h
            by_cases sw3_3 : ((X.2 (v3).toNatClampNeg) &&& (63 : Int32)) = 3
            · replace h := (if_pos sw3_3).symm.trans h
              refine Rt.tsIn 247 dL_law_32 (by rw [sw3_3] <;> decide) (by rw [sw3_3] <;> decide) (by rw [sw3_3] <;> rfl) (by decide) ?_
              exact wfL_law_b247 X (fun a0 s => fL_law_l18 X n a0 s) ih v3 _ z h
            · replace h := (if_neg sw3_3).symm.trans h
              by_cases sw3_4 : ((X.2 (v3).toNatClampNeg) &&& (63 : Int32)) = 4
              · replace h := (if_pos sw3_4).symm.trans h
                refine Rt.tsIn 270 dL_law_32 (by rw [sw3_4] <;> decide) (by rw [sw3_4] <;> decide) (by rw [sw3_4] <;> rfl) (by decide) ?_
                exact wfL_law_b270 X (fun a0 s => fL_law_l18 X n a0 s) ih v3 _ z h
              · replace h := (if_neg sw3_4).symm.trans h
                by_cases sw3_5 : ((X.2 (v3).toNatClampNeg) &&& (63 : Int32)) = 5
                · replace h := (if_pos sw3_5).symm.trans h
                  refine Rt.tsIn 293 dL_law_32 (by rw [sw3_5] <;> decide) (by rw [sw3_5] <;> decide) (by rw [sw3_5] <;> rfl) (by decide) ?_
                  exact wfL_law_b293 X (fun a0 s => fL_law_l18 X n a0 s) ih v3 _ z h
                · replace h := (if_neg sw3_5).symm.trans h
                  by_cases sw3_6 : ((X.2 (v3).toNatClampNeg) &&& (63 : Int32)) = 6
                  · replace h := (if_pos sw3_6).symm.trans h
                    refine Rt.tsIn 326 dL_law_32 (by rw [sw3_6] <;> decide) (by rw [sw3_6] <;> decide) (by rw [sw3_6] <;> rfl) (by decide) ?_
                    exact wfL_law_b326 X (fun a0 s => fL_law_l18 X n a0 s) ih v3 _ z h
                  · replace h := (if_neg sw3_6).symm.trans h
                    by_cases sw3_7 : ((X.2 (v3).toNatClampNeg) &&& (63 : Int32)) = 7
                    · replace h := (if_pos sw3_7).symm.trans h
                      refine Rt.tsIn 349 dL_law_32 (by rw [sw3_7] <;> decide) (by rw [sw3_7] <;> decide) (by rw [sw3_7] <;> rfl) (by decide) ?_
                      exact wfL_law_b349 X (fun a0 s => fL_law_l18 X n a0 s) ih v3 _ z h
                    · replace h := (if_neg sw3_7).symm.trans h
                      by_cases sw3_8 : ((X.2 (v3).toNatClampNeg) &&& (63 : Int32)) = 8
                      · replace h := (if_pos sw3_8).symm.trans h
                        refine Rt.tsIn 382 dL_law_32 (by rw [sw3_8] <;> decide) (by rw [sw3_8] <;> decide) (by rw [sw3_8] <;> rfl) (by decide) ?_
                        exact wfL_law_b382 X (fun a0 s => fL_law_l18 X n a0 s) ih v3 _ z h
                      · replace h := (if_neg sw3_8).symm.trans h
                        by_cases sw3_9 : ((X.2 (v3).toNatClampNeg) &&& (63 : Int32)) = 9
                        · replace h := (if_pos sw3_9).symm.trans h
                          refine Rt.tsIn 395 dL_law_32 (by rw [sw3_9] <;> decide) (by rw [sw3_9] <;> decide) (by rw [sw3_9] <;> rfl) (by decide) ?_
                          exact wfL_law_b395 X (fun a0 s => fL_law_l18 X n a0 s) ih v3 _ z h
                        · replace h := (if_neg sw3_9).symm.trans h
                          by_cases sw3_10 : ((X.2 (v3).toNatClampNeg) &&& (63 : Int32)) = 10
                          · replace h := (if_pos sw3_10).symm.trans h
                            refine Rt.tsIn 428 dL_law_32 (by rw [sw3_10] <;> decide) (by rw [sw3_10] <;> decide) (by rw [sw3_10] <;> rfl) (by decide) ?_
                            exact wfL_law_b428 X (fun a0 s => fL_law_l18 X n a0 s) ih v3 _ z h
                          · replace h := (if_neg sw3_10).symm.trans h
                            by_cases sw3_11 : ((X.2 (v3).toNatClampNeg) &&& (63 : Int32)) = 11
                            · replace h := (if_pos sw3_11).symm.trans h
                              refine Rt.tsIn 461 dL_law_32 (by rw [sw3_11] <;> decide) (by rw [sw3_11] <;> decide) (by rw [sw3_11] <;> rfl) (by decide) ?_
                              exact wfL_law_b461 X (fun a0 s => fL_law_l18 X n a0 s) ih v3 _ z h
                            · replace h := (if_neg sw3_11).symm.trans h
                              by_cases sw3_12 : ((X.2 (v3).toNatClampNeg) &&& (63 : Int32)) = 12
                              · replace h := (if_pos sw3_12).symm.trans h
                                refine Rt.tsIn 504 dL_law_32 (by rw [sw3_12] <;> decide) (by rw [sw3_12] <;> decide) (by rw [sw3_12] <;> rfl) (by decide) ?_
                                exact wfL_law_b504 X (fun a0 s => fL_law_l18 X n a0 s) ih v3 _ z h
                              · replace h := (if_neg sw3_12).symm.trans h
                                by_cases sw3_13 : ((X.2 (v3).toNatClampNeg) &&& (63 : Int32)) = 13
                                · replace h := (if_pos sw3_13).symm.trans h
                                  refine Rt.tsIn 527 dL_law_32 (by rw [sw3_13] <;> decide) (by rw [sw3_13] <;> decide) (by rw [sw3_13] <;> rfl) (by decide) ?_
                                  exact wfL_law_b527 X (fun a0 s => fL_law_l18 X n a0 s) ih v3 _ z h
                                · replace h := (if_neg sw3_13).symm.trans h
                                  by_cases sw3_14 : ((X.2 (v3).toNatClampNeg) &&& (63 : Int32)) = 14
                                  · replace h := (if_pos sw3_14).symm.trans h
                                    refine Rt.tsIn 561 dL_law_32 (by rw [sw3_14] <;> decide) (by rw [sw3_14] <;> decide) (by rw [sw3_14] <;> rfl) (by decide) ?_
                                    exact wfL_law_b561 X (fun a0 s => fL_law_l18 X n a0 s) ih v3 _ z h
                                  · replace h := (if_neg sw3_14).symm.trans h
                                    by_cases sw3_15 : ((X.2 (v3).toNatClampNeg) &&& (63 : Int32)) = 15
                                    · replace h := (if_pos sw3_15).symm.trans h
                                      refine Rt.tsIn 584 dL_law_32 (by rw [sw3_15] <;> decide) (by rw [sw3_15] <;> decide) (by rw [sw3_15] <;> rfl) (by decide) ?_
                                      exact wfL_law_b584 X (fun a0 s => fL_law_l18 X n a0 s) ih v3 _ z h
                                    · replace h := (if_neg sw3_15).symm.trans h
                                      by_cases sw3_16 : ((X.2 (v3).toNatClampNeg) &&& (63 : Int32)) = 16
                                      · replace h := (if_pos sw3_16).symm.trans h
                                        refine Rt.tsIn 617 dL_law_32 (by rw [sw3_16] <;> decide) (by rw [sw3_16] <;> decide) (by rw [sw3_16] <;> rfl) (by decide) ?_
                                        exact wfL_law_b617 X (fun a0 s => fL_law_l18 X n a0 s) ih v3 _ z h
                                      · replace h := (if_neg sw3_16).symm.trans h
                                        by_cases sw3_17 : ((X.2 (v3).toNatClampNeg) &&& (63 : Int32)) = 17
                                        · replace h := (if_pos sw3_17).symm.trans h
                                          refine Rt.tsIn 650 dL_law_32 (by rw [sw3_17] <;> decide) (by rw [sw3_17] <;> decide) (by rw [sw3_17] <;> rfl) (by decide) ?_
                                          exact wfL_law_b650 X (fun a0 s => fL_law_l18 X n a0 s) ih v3 _ z h
                                        · replace h := (if_neg sw3_17).symm.trans h
                                          by_cases sw3_18 : ((X.2 (v3).toNatClampNeg) &&& (63 : Int32)) = 18
                                          · replace h := (if_pos sw3_18).symm.trans h
                                            refine Rt.tsIn 663 dL_law_32 (by rw [sw3_18] <;> decide) (by rw [sw3_18] <;> decide) (by rw [sw3_18] <;> rfl) (by decide) ?_
                                            exact wfL_law_b663 X (fun a0 s => fL_law_l18 X n a0 s) ih v3 _ z h
                                          · replace h := (if_neg sw3_18).symm.trans h
                                            by_cases sw3_19 : ((X.2 (v3).toNatClampNeg) &&& (63 : Int32)) = 19
                                            · replace h := (if_pos sw3_19).symm.trans h
                                              refine Rt.tsIn 686 dL_law_32 (by rw [sw3_19] <;> decide) (by rw [sw3_19] <;> decide) (by rw [sw3_19] <;> rfl) (by decide) ?_
                                              exact wfL_law_b686 X (fun a0 s => fL_law_l18 X n a0 s) ih v3 _ z h
                                            · replace h := (if_neg sw3_19).symm.trans h
                                              by_cases sw3_20 : ((X.2 (v3).toNatClampNeg) &&& (63 : Int32)) = 20
                                              · replace h := (if_pos sw3_20).symm.trans h
                                                refine Rt.tsIn 699 dL_law_32 (by rw [sw3_20] <;> decide) (by rw [sw3_20] <;> decide) (by rw [sw3_20] <;> rfl) (by decide) ?_
                                                exact wfL_law_b699 X (fun a0 s => fL_law_l18 X n a0 s) ih v3 _ z h
                                              · replace h := (if_neg sw3_20).symm.trans h
                                                by_cases sw3_21 : ((X.2 (v3).toNatClampNeg) &&& (63 : Int32)) = 21
                                                · replace h := (if_pos sw3_21).symm.trans h
                                                  refine Rt.tsIn 733 dL_law_32 (by rw [sw3_21] <;> decide) (by rw [sw3_21] <;> decide) (by rw [sw3_21] <;> rfl) (by decide) ?_
                                                  exact wfL_law_b733 X (fun a0 s => fL_law_l18 X n a0 s) ih v3 _ z h
                                                · replace h := (if_neg sw3_21).symm.trans h
                                                  by_cases sw3_22 : ((X.2 (v3).toNatClampNeg) &&& (63 : Int32)) = 22
                                                  · replace h := (if_pos sw3_22).symm.trans h
                                                    refine Rt.tsIn 756 dL_law_32 (by rw [sw3_22] <;> decide) (by rw [sw3_22] <;> decide) (by rw [sw3_22] <;> rfl) (by decide) ?_
                                                    exact wfL_law_b756 X (fun a0 s => fL_law_l18 X n a0 s) ih v3 _ z h
                                                  · replace h := (if_neg sw3_22).symm.trans h
                                                    by_cases sw3_23 : ((X.2 (v3).toNatClampNeg) &&& (63 : Int32)) = 23
                                                    · replace h := (if_pos sw3_23).symm.trans h
                                                      refine Rt.tsIn 779 dL_law_32 (by rw [sw3_23] <;> decide) (by rw [sw3_23] <;> decide) (by rw [sw3_23] <;> rfl) (by decide) ?_
                                                      exact wfL_law_b779 X (fun a0 s => fL_law_l18 X n a0 s) ih v3 _ z h
                                                    · replace h := (if_neg sw3_23).symm.trans h
                                                      by_cases sw3_24 : ((X.2 (v3).toNatClampNeg) &&& (63 : Int32)) = 24
                                                      · replace h := (if_pos sw3_24).symm.trans h
                                                        refine Rt.tsIn 792 dL_law_32 (by rw [sw3_24] <;> decide) (by rw [sw3_24] <;> decide) (by rw [sw3_24] <;> rfl) (by decide) ?_
                                                        exact wfL_law_b792 X (fun a0 s => fL_law_l18 X n a0 s) ih v3 _ z h
                                                      · replace h := (if_neg sw3_24).symm.trans h
                                                        by_cases sw3_25 : ((X.2 (v3).toNatClampNeg) &&& (63 : Int32)) = 25
                                                        · replace h := (if_pos sw3_25).symm.trans h
                                                          refine Rt.tsIn 815 dL_law_32 (by rw [sw3_25] <;> decide) (by rw [sw3_25] <;> decide) (by rw [sw3_25] <;> rfl) (by decide) ?_
                                                          exact wfL_law_b815 X (fun a0 s => fL_law_l18 X n a0 s) ih v3 _ z h
                                                        · replace h := (if_neg sw3_25).symm.trans h
                                                          by_cases sw3_26 : ((X.2 (v3).toNatClampNeg) &&& (63 : Int32)) = 26
                                                          · replace h := (if_pos sw3_26).symm.trans h
                                                            refine Rt.tsIn 848 dL_law_32 (by rw [sw3_26] <;> decide) (by rw [sw3_26] <;> decide) (by rw [sw3_26] <;> rfl) (by decide) ?_
                                                            exact wfL_law_b848 X (fun a0 s => fL_law_l18 X n a0 s) ih v3 _ z h
                                                          · replace h := (if_neg sw3_26).symm.trans h
                                                            by_cases sw3_27 : ((X.2 (v3).toNatClampNeg) &&& (63 : Int32)) = 27
                                                            · replace h := (if_pos sw3_27).symm.trans h
                                                              refine Rt.tsIn 901 dL_law_32 (by rw [sw3_27] <;> decide) (by rw [sw3_27] <;> decide) (by rw [sw3_27] <;> rfl) (by decide) ?_
                                                              exact wfL_law_b901 X (fun a0 s => fL_law_l18 X n a0 s) ih v3 _ z h
                                                            · replace h := (if_neg sw3_27).symm.trans h
                                                              by_cases sw3_28 : ((X.2 (v3).toNatClampNeg) &&& (63 : Int32)) = 28
                                                              · replace h := (if_pos sw3_28).symm.trans h
                                                                refine Rt.tsIn 914 dL_law_32 (by rw [sw3_28] <;> decide) (by rw [sw3_28] <;> decide) (by rw [sw3_28] <;> rfl) (by decide) ?_
                                                                exact wfL_law_b914 X (fun a0 s => fL_law_l18 X n a0 s) ih v3 _ z h
                                                              · replace h := (if_neg sw3_28).symm.trans h
                                                                by_cases sw3_29 : ((X.2 (v3).toNatClampNeg) &&& (63 : Int32)) = 29
                                                                · replace h := (if_pos sw3_29).symm.trans h
                                                                  refine Rt.tsIn 937 dL_law_32 (by rw [sw3_29] <;> decide) (by rw [sw3_29] <;> decide) (by rw [sw3_29] <;> rfl) (by decide) ?_
                                                                  exact wfL_law_b937 X (fun a0 s => fL_law_l18 X n a0 s) ih v3 _ z h
                                                                · replace h := (if_neg sw3_29).symm.trans h
                                                                  by_cases sw3_30 : ((X.2 (v3).toNatClampNeg) &&& (63 : Int32)) = 30
                                                                  · replace h := (if_pos sw3_30).symm.trans h
                                                                    refine Rt.tsIn 950 dL_law_32 (by rw [sw3_30] <;> decide) (by rw [sw3_30] <;> decide) (by rw [sw3_30] <;> rfl) (by decide) ?_
                                                                    exact wfL_law_b950 X (fun a0 s => fL_law_l18 X n a0 s) ih v3 _ z h
                                                                  · replace h := (if_neg sw3_30).symm.trans h
                                                                    by_cases sw3_31 : ((X.2 (v3).toNatClampNeg) &&& (63 : Int32)) = 31
                                                                    · replace h := (if_pos sw3_31).symm.trans h
                                                                      refine Rt.tsIn 963 dL_law_32 (by rw [sw3_31] <;> decide) (by rw [sw3_31] <;> decide) (by rw [sw3_31] <;> rfl) (by decide) ?_
                                                                      exact wfL_law_b963 X (fun a0 s => fL_law_l18 X n a0 s) ih v3 _ z h
                                                                    · replace h := (if_neg sw3_31).symm.trans h
                                                                      by_cases sw3_32 : ((X.2 (v3).toNatClampNeg) &&& (63 : Int32)) = 32
                                                                      · replace h := (if_pos sw3_32).symm.trans h
                                                                        refine Rt.tsIn 1006 dL_law_32 (by rw [sw3_32] <;> decide) (by rw [sw3_32] <;> decide) (by rw [sw3_32] <;> rfl) (by decide) ?_
                                                                        exact wfL_law_b1006 X (fun a0 s => fL_law_l18 X n a0 s) ih v3 _ z h
                                                                      · replace h := (if_neg sw3_32).symm.trans h
                                                                        by_cases sw3_33 : ((X.2 (v3).toNatClampNeg) &&& (63 : Int32)) = 33
                                                                        · replace h := (if_pos sw3_33).symm.trans h
                                                                          refine Rt.tsIn 1019 dL_law_32 (by rw [sw3_33] <;> decide) (by rw [sw3_33] <;> decide) (by rw [sw3_33] <;> rfl) (by decide) ?_
                                                                          exact wfL_law_b1019 X (fun a0 s => fL_law_l18 X n a0 s) ih v3 _ z h
                                                                        · replace h := (if_neg sw3_33).symm.trans h
                                                                          by_cases sw3_34 : ((X.2 (v3).toNatClampNeg) &&& (63 : Int32)) = 34
                                                                          · replace h := (if_pos sw3_34).symm.trans h
                                                                            refine Rt.tsIn 1032 dL_law_32 (by rw [sw3_34] <;> decide) (by rw [sw3_34] <;> decide) (by rw [sw3_34] <;> rfl) (by decide) ?_
                                                                            exact wfL_law_b1032 X (fun a0 s => fL_law_l18 X n a0 s) ih v3 _ z h
                                                                          · replace h := (if_neg sw3_34).symm.trans h
                                                                            have hsw : (((X.2 (v3).toNatClampNeg) &&& (63 : Int32))).toInt < 0 ∨ 34 < (((X.2 (v3).toNatClampNeg) &&& (63 : Int32))).toInt := by
                                                                              have w0 := nti 0 (k := 0) rfl sw3_0
                                                                              have w1 := nti 1 (k := 1) rfl sw3_1
                                                                              have w2 := nti 2 (k := 2) rfl sw3_2
                                                                              have w3 := nti 3 (k := 3) rfl sw3_3
                                                                              have w4 := nti 4 (k := 4) rfl sw3_4
                                                                              have w5 := nti 5 (k := 5) rfl sw3_5
                                                                              have w6 := nti 6 (k := 6) rfl sw3_6
                                                                              have w7 := nti 7 (k := 7) rfl sw3_7
                                                                              have w8 := nti 8 (k := 8) rfl sw3_8
                                                                              have w9 := nti 9 (k := 9) rfl sw3_9
                                                                              have w10 := nti 10 (k := 10) rfl sw3_10
                                                                              have w11 := nti 11 (k := 11) rfl sw3_11
                                                                              have w12 := nti 12 (k := 12) rfl sw3_12
                                                                              have w13 := nti 13 (k := 13) rfl sw3_13
                                                                              have w14 := nti 14 (k := 14) rfl sw3_14
                                                                              have w15 := nti 15 (k := 15) rfl sw3_15
                                                                              have w16 := nti 16 (k := 16) rfl sw3_16
                                                                              have w17 := nti 17 (k := 17) rfl sw3_17
                                                                              have w18 := nti 18 (k := 18) rfl sw3_18
                                                                              have w19 := nti 19 (k := 19) rfl sw3_19
                                                                              have w20 := nti 20 (k := 20) rfl sw3_20
                                                                              have w21 := nti 21 (k := 21) rfl sw3_21
                                                                              have w22 := nti 22 (k := 22) rfl sw3_22
                                                                              have w23 := nti 23 (k := 23) rfl sw3_23
                                                                              have w24 := nti 24 (k := 24) rfl sw3_24
                                                                              have w25 := nti 25 (k := 25) rfl sw3_25
                                                                              have w26 := nti 26 (k := 26) rfl sw3_26
                                                                              have w27 := nti 27 (k := 27) rfl sw3_27
                                                                              have w28 := nti 28 (k := 28) rfl sw3_28
                                                                              have w29 := nti 29 (k := 29) rfl sw3_29
                                                                              have w30 := nti 30 (k := 30) rfl sw3_30
                                                                              have w31 := nti 31 (k := 31) rfl sw3_31
                                                                              have w32 := nti 32 (k := 32) rfl sw3_32
                                                                              have w33 := nti 33 (k := 33) rfl sw3_33
                                                                              have w34 := nti 34 (k := 34) rfl sw3_34
                                                                              omega
                                                                            refine Rt.tsOut 1055 dL_law_32 hsw (by decide) ?_
                                                                            exact wfL_law_b1055 X (fun a0 s => fL_law_l18 X n a0 s) ih v3 _ z h
def fL_law_e (X : Scr) (σ : Sto) : Option (Int32 × Sto) := fL_law_l18 X 600 (0 : Int32) σ
set_option maxRecDepth 100000 in
set_option maxHeartbeats 4000000 in
theorem wfL_law_e (X : Scr) (σ : Sto) (z : Int32 × Sto) (h : fL_law_e X σ = some z) : Rt X RL cL_law 4 room_1 .ireturn 16 [(0, .ref 30), (1, .ref 0), (2, .ref 17)] [] σ (some (.int z.1)) z.2 := by
  unfold fL_law_e at h
  refine Rt.iconst 0 dL_law_16 (by decide) ?_
  refine Rt.istore_n [(3, _), (0, _), (1, _), (2, _)] dL_law_17 (by decide) rfl ?_
  refine Rt.pick [1, 2, 3, 0] rfl ?_
  exact wfL_law_l18 X 600 (0 : Int32) _ z h
