/-! ===== the reference's small methods over its own state ===== -/
def bI (p : Prop) [Decidable p] : Int32 := if p then 1 else 0
theorem bI_01 (p : Prop) [Decidable p] : bI p = 0 ∨ bI p = 1 := by unfold bI; by_cases h : p <;> simp [h]
theorem bI_t {p : Prop} [Decidable p] (h : p) : bI p = 1 := if_pos h
theorem bI_f {p : Prop} [Decidable p] (h : ¬ p) : bI p = 0 := if_neg h
theorem bI_eq0 (p : Prop) [Decidable p] : bI p = 0 ↔ ¬ p := by unfold bI; by_cases h : p <;> simp [h]
theorem bI_eq1 (p : Prop) [Decidable p] : bI p = 1 ↔ p := by unfold bI; by_cases h : p <;> simp [h]
section MA
variable {X : Xt} {G : Gt} {m : Nat} {ℓ : Nat → Nat} {t : Tt}
theorem s_in {x lo hi : Int32} {Pr : Int32 → Gt → Prop} : wX10_in X G x lo hi Pr ↔ Pr (bI (lo ≤ x ∧ x ≤ hi)) G := by
  unfold wX10_in
  by_cases h1 : x < lo
  · have : ¬ lo ≤ x := Int32.not_le.mpr h1
    simp [h1, bI, this]
  · have h1' : lo ≤ x := Int32.not_lt.mp h1
    by_cases h2 : hi < x
    · have : ¬ x ≤ hi := Int32.not_le.mpr h2
      simp [h1, h2, bI, this]
    · have h2' : x ≤ hi := Int32.not_lt.mp h2
      simp [h1, h2, bI, h1', h2']
theorem s_thrown (h : ML G m ℓ) {Pr : Int32 → Gt → Prop} : wX10_thrown X (mk G m ℓ t) m Pr ↔ Pr (tS t 354) (mk G m ℓ t) := by
  simp only [wX10_thrown, ml_gT, ml_gR, ml_gI, ml_gJ, ml_gH, ml_gU, ml_sI, ml_sJ, h.1, h.2.1.1, h.2.1.2.1, h.2.1.2.2.1, h.2.1.2.2.2.1, h.2.1.2.2.2.2.1, h.2.1.2.2.2.2.2.1, h.2.1.2.2.2.2.2.2, h.2.2.1.1, h.2.2.1.2.1, h.2.2.1.2.2.1, h.2.2.1.2.2.2.1, h.2.2.1.2.2.2.2.1, h.2.2.1.2.2.2.2.2.1, h.2.2.1.2.2.2.2.2.2, ml_gA0 h, ml_gA1 h, ml_gA9 h, ml_gA11 h, ml_gA12 h, ml_gA16 h, ml_gA17 h, ml_sA0 h, ml_sA1 h, ml_sA9 h, ml_sA11 h, ml_sA12 h, ml_sA16 h, ml_sA17 h, Option.some.injEq, exists_eq_left', forall_eq, true_and, tA_uA, tA_uS, tA_uJ, tS_uA, tS_uS, tS_uJ, tJ_uA, tJ_uS, tJ_uJ]
theorem s_fails (h : ML G m ℓ) {c : Int32} {Pr : Int32 → Gt → Prop} : wX10_fails X (mk G m ℓ t) m c Pr ↔ Pr 0 (mk G m ℓ (uS t 354 c)) := by
  simp only [wX10_fails, ml_gT, ml_gR, ml_gI, ml_gJ, ml_gH, ml_gU, ml_sI, ml_sJ, h.1, h.2.1.1, h.2.1.2.1, h.2.1.2.2.1, h.2.1.2.2.2.1, h.2.1.2.2.2.2.1, h.2.1.2.2.2.2.2.1, h.2.1.2.2.2.2.2.2, h.2.2.1.1, h.2.2.1.2.1, h.2.2.1.2.2.1, h.2.2.1.2.2.2.1, h.2.2.1.2.2.2.2.1, h.2.2.1.2.2.2.2.2.1, h.2.2.1.2.2.2.2.2.2, ml_gA0 h, ml_gA1 h, ml_gA9 h, ml_gA11 h, ml_gA12 h, ml_gA16 h, ml_gA17 h, ml_sA0 h, ml_sA1 h, ml_sA9 h, ml_sA11 h, ml_sA12 h, ml_sA16 h, ml_sA17 h, Option.some.injEq, exists_eq_left', forall_eq, true_and, tA_uA, tA_uS, tA_uJ, tS_uA, tS_uS, tS_uJ, tJ_uA, tJ_uS, tJ_uJ]
theorem s_sets (h : ML G m ℓ) {x y : Int32} {Pr : Int32 → Gt → Prop} : wX10_sets X (mk G m ℓ t) m x y Pr ↔ vp_in x 8900 ∧ Pr (tA t 0 x.toNatClampNeg) (mk G m ℓ (uA t 0 (upd (tA t 0) x.toNatClampNeg y))) := by
  simp only [wX10_sets, ml_gT, ml_gR, ml_gI, ml_gJ, ml_gH, ml_gU, ml_sI, ml_sJ, h.1, h.2.1.1, h.2.1.2.1, h.2.1.2.2.1, h.2.1.2.2.2.1, h.2.1.2.2.2.2.1, h.2.1.2.2.2.2.2.1, h.2.1.2.2.2.2.2.2, h.2.2.1.1, h.2.2.1.2.1, h.2.2.1.2.2.1, h.2.2.1.2.2.2.1, h.2.2.1.2.2.2.2.1, h.2.2.1.2.2.2.2.2.1, h.2.2.1.2.2.2.2.2.2, ml_gA0 h, ml_gA1 h, ml_gA9 h, ml_gA11 h, ml_gA12 h, ml_gA16 h, ml_gA17 h, ml_sA0 h, ml_sA1 h, ml_sA9 h, ml_sA11 h, ml_sA12 h, ml_sA16 h, ml_sA17 h, Option.some.injEq, exists_eq_left', forall_eq, true_and, tA_uA, tA_uS, tA_uJ, tS_uA, tS_uS, tS_uJ, tJ_uA, tJ_uS, tJ_uJ]
  constructor
  · exact fun z => ⟨z.1, z.2.2⟩
  · exact fun z => ⟨z.1, z.1, z.2⟩
theorem s_registerAt {d r : Int32} {Pr : Int32 → Gt → Prop} : wX10_registerAt X G d r Pr ↔ Pr (32 * (d - 1) + r) G := Iff.rfl
theorem s_requestAt {i : Int32} {Pr : Int32 → Gt → Prop} : wX10_requestAt X G i Pr ↔ Pr (280 + 12 * i) G := Iff.rfl
theorem s_faults {d : Int32} {Pr : Int32 → Gt → Prop} : wX10_faults X G d Pr ↔ Pr (230 + 13 * (d - 1)) G := Iff.rfl
theorem s_cacheAt {d r : Int32} {Pr : Int32 → Gt → Prop} : wX10_cacheAt X G d r Pr ↔ Pr (1400 + 3 * (32 * (d - 1) + r)) G := Iff.rfl
theorem s_isRegister {d r : Int32} {Pr : Int32 → Gt → Prop} : wX10_isRegister X G d r Pr ↔ Pr (bI ((1 ≤ d ∧ d ≤ 3) ∧ 0 ≤ r ∧ r ≤ 31)) G := by
  simp only [wX10_isRegister, s_in, bI_eq0]
  by_cases h1 : 1 ≤ d ∧ d ≤ 3
  · by_cases h2 : 0 ≤ r ∧ r ≤ 31
    · simp [h1, h2, bI]
    · simp [h1, h2, bI]
  · simp [h1, bI]
end MA
