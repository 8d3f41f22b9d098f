/-! ===== bits of longs (the wb rows began as kit/laws/BITS.to-paste) ===== -/
theorem wb_tb (n : Nat) : (lN n).toBitVec = BitVec.ofNat 64 n := rfl
theorem wb_inj {a b : Int64} (h : a.toBitVec = b.toBitVec) : a = b := Int64.toBitVec_inj.mp h
theorem wb_tn {n : Nat} (h : n < 2 ^ 64) : (lN n).toBitVec.toNat = n := by rw [wb_tb, BitVec.toNat_ofNat, Nat.mod_eq_of_lt h]
theorem wb_of (x : Int64) : ∃ n, n < 2 ^ 64 ∧ x = lN n := ⟨x.toBitVec.toNat, x.toBitVec.isLt, wb_inj (by rw [wb_tb]; simp)⟩
theorem wb_of32 (x : Int32) : ∃ n, n < 2 ^ 32 ∧ x = nI n := ⟨x.toBitVec.toNat, x.toBitVec.isLt, Int32.toBitVec_inj.mp (by show _ = BitVec.ofNat 32 _; simp)⟩
theorem wb_c : ∀ k, k < 64 → ((nI k).toInt64 &&& 63) = lN k := by decide +kernel
theorem wb_cu : ∀ k, k < 64 → ((nI k).toInt64.toUInt64 &&& Int64.toUInt64 63) = UInt64.ofNat k := by decide +kernel
theorem wb_sm : ∀ k, k < 64 → (BitVec.ofNat 64 k).smod 64 = BitVec.ofNat 64 k := by decide +kernel
theorem wb_pw {a b : Nat} (h : a ≤ b) : 2 ^ b = 2 ^ a * 2 ^ (b - a) := by rw [← Nat.pow_add]; congr 1; omega
theorem wb_lt2 {a b : Nat} (h : a < b) : 2 ^ a < 2 ^ b := Nat.pow_lt_pow_right (by decide) h
theorem wb_mod (n : Nat) : lN n = lN (n % 2 ^ 64) := wb_inj (by rw [wb_tb, wb_tb]; apply BitVec.eq_of_toNat_eq; rw [BitVec.toNat_ofNat, BitVec.toNat_ofNat, Nat.mod_mod])
theorem wb_shr {n k : Nat} (hn : n < 2 ^ 64) (hk : k < 64) : ((lN n).toUInt64 >>> ((nI k).toInt64.toUInt64 &&& Int64.toUInt64 63)).toInt64 = lN (n / 2 ^ k) := by
  rw [wb_cu k hk]
  apply wb_inj
  apply BitVec.eq_of_toNat_eq
  show ((lN n).toUInt64 >>> UInt64.ofNat k).toNat = (BitVec.ofNat 64 _).toNat
  have h1 : (UInt64.ofNat k).toNat = k := by
    show (BitVec.ofNat 64 k).toNat = k
    rw [BitVec.toNat_ofNat, Nat.mod_eq_of_lt (by omega)]
  have h2 : (lN n).toUInt64.toNat = n := wb_tn hn
  rw [UInt64.toNat_shiftRight, h1, h2, Nat.mod_eq_of_lt hk, Nat.shiftRight_eq_div_pow, BitVec.toNat_ofNat, Nat.mod_eq_of_lt (Nat.lt_of_le_of_lt (Nat.div_le_self _ _) hn)]
theorem wb_shl (n : Nat) {k : Nat} (hk : k < 64) : lN n <<< ((nI k).toInt64 &&& 63) = lN (n * 2 ^ k) := by
  rw [wb_c k hk]
  apply wb_inj
  rw [Int64.toBitVec_shiftLeft, wb_tb, wb_tb, wb_tb, wb_sm k hk]
  apply BitVec.eq_of_toNat_eq
  rw [BitVec.shiftLeft_eq', BitVec.toNat_shiftLeft, BitVec.toNat_ofNat, BitVec.toNat_ofNat, BitVec.toNat_ofNat, Nat.mod_eq_of_lt (show k < 2 ^ 64 by omega), Nat.shiftLeft_eq, Nat.mul_mod, Nat.mod_mod, ← Nat.mul_mod]
theorem wb_and {a b : Nat} (ha : a < 2 ^ 64) (hb : b < 2 ^ 64) : lN a &&& lN b = lN (a &&& b) := by
  apply wb_inj
  rw [Int64.toBitVec_and, wb_tb, wb_tb, wb_tb]
  apply BitVec.eq_of_toNat_eq
  rw [BitVec.toNat_and, BitVec.toNat_ofNat, BitVec.toNat_ofNat, BitVec.toNat_ofNat, Nat.mod_eq_of_lt ha, Nat.mod_eq_of_lt hb, Nat.mod_eq_of_lt (Nat.and_lt_two_pow _ hb)]
theorem wb_or {a b : Nat} (ha : a < 2 ^ 64) (hb : b < 2 ^ 64) : lN a ||| lN b = lN (a ||| b) := by
  apply wb_inj
  rw [Int64.toBitVec_or, wb_tb, wb_tb, wb_tb]
  apply BitVec.eq_of_toNat_eq
  rw [BitVec.toNat_or, BitVec.toNat_ofNat, BitVec.toNat_ofNat, BitVec.toNat_ofNat, Nat.mod_eq_of_lt ha, Nat.mod_eq_of_lt hb, Nat.mod_eq_of_lt (Nat.or_lt_two_pow ha hb)]
theorem wb_mask {n k : Nat} (hn : n < 2 ^ 64) (hk : k < 64) : lN n &&& lN (2 ^ k - 1) = lN (n % 2 ^ k) := by
  rw [wb_and hn (by have := wb_lt2 hk; omega), Nat.and_two_pow_sub_one_eq_mod]
theorem wb_a1 {n : Nat} (hn : n < 2 ^ 64) : lN n &&& 1 = lN (n % 2) := wb_mask (k := 1) hn (by decide)
theorem wb_bit {n k : Nat} (hn : n < 2 ^ 64) (hk : k < 64) : ((lN n).toUInt64 >>> ((nI k).toInt64.toUInt64 &&& Int64.toUInt64 63)).toInt64 &&& 1 = lN (n / 2 ^ k % 2) := by
  rw [wb_shr hn hk, wb_a1 (Nat.lt_of_le_of_lt (Nat.div_le_self _ _) hn)]
/-! ===== masks in naturals; the number of members ===== -/
def mb (M i : Nat) : Bool := M / 2 ^ i % 2 == 1
def cntM (M : Nat) : Nat → Nat
  | 0 => 0
  | n + 1 => cntM M n + M / 2 ^ n % 2
theorem mb_1 {M i : Nat} : mb M i = true ↔ M / 2 ^ i % 2 = 1 := by unfold mb; simp
theorem mb_0 {M i : Nat} : mb M i = false ↔ M / 2 ^ i % 2 = 0 := by
  unfold mb
  have := Nat.mod_two_eq_zero_or_one (M / 2 ^ i)
  rcases this with e | e <;> rw [e] <;> simp
theorem mb_lt {M i : Nat} (h : M < 2 ^ i) : mb M i = false := by
  rw [mb_0, Nat.div_eq_of_lt h]
theorem mb_add {M i j : Nat} (h : M < 2 ^ i) : mb (M + 2 ^ i) j = (mb M j || decide (j = i)) := by
  have hp : 0 < 2 ^ j := Nat.pow_pos (by decide)
  rcases Nat.lt_trichotomy j i with e | e | e
  · have e1 : 2 ^ i = 2 ^ j * 2 ^ (i - j) := wb_pw (by omega)
    have e2 : (M + 2 ^ i) / 2 ^ j = M / 2 ^ j + 2 ^ (i - j) := by rw [e1, Nat.add_mul_div_left _ _ hp]
    have e3 : 2 ^ (i - j) % 2 = 0 := by
      rw [show i - j = (i - j - 1) + 1 by omega, Nat.pow_succ]; omega
    unfold mb
    rw [e2, show (M / 2 ^ j + 2 ^ (i - j)) % 2 = M / 2 ^ j % 2 by omega]
    simp [show ¬ j = i by omega]
  · subst e
    have e2 : (M + 2 ^ j) / 2 ^ j = M / 2 ^ j + 1 := Nat.add_div_right _ hp
    unfold mb
    rw [e2, Nat.div_eq_of_lt h]
    simp
  · have e1 : 2 ^ (i + 1) ≤ 2 ^ j := Nat.pow_le_pow_right (by decide) e
    rw [Nat.pow_succ] at e1
    rw [mb_lt (show M + 2 ^ i < 2 ^ j by omega), mb_lt (show M < 2 ^ j by omega)]
    simp [show ¬ j = i by omega]
theorem mb_pw {i j : Nat} : mb (2 ^ i) j = decide (j = i) := by
  have := mb_add (M := 0) (i := i) (j := j) (Nat.pow_pos (by decide))
  rw [Nat.zero_add] at this
  rw [this]
  have : mb 0 j = false := by unfold mb; simp
  rw [this]; simp
theorem or_pw {M i : Nat} (h : M < 2 ^ i) : M ||| 2 ^ i = M + 2 ^ i := by
  have := Nat.two_pow_add_eq_or_of_lt (i := i) (b := M) h 1
  rw [Nat.mul_one] at this
  rw [Nat.or_comm, ← this, Nat.add_comm]
theorem pw40 {i : Nat} (h : i ≤ 40) : 2 ^ i ≤ 2 ^ 40 := Nat.pow_le_pow_right (by decide) h
theorem l_one : (1 : Int64) = lN 1 := rfl
theorem l_shl {i : Nat} (h : i < 40) : (1 : Int64) <<< ((nI i).toInt64 &&& 63) = lN (2 ^ i) := by
  rw [l_one, wb_shl 1 (by omega), Nat.one_mul]
theorem l_or {M i : Nat} (h : M < 2 ^ i) (hi : i < 40) : lN M ||| lN (2 ^ i) = lN (M + 2 ^ i) := by
  have := pw40 (i := i) (by omega)
  rw [wb_or (by omega) (by omega), or_pw h]
/-- the class's test of a member -/
theorem l_mem {M i : Nat} (hM : M < 2 ^ 40) (hi : i < 40) : lg_cmp (((lN M).toUInt64 >>> ((nI i).toInt64.toUInt64 &&& Int64.toUInt64 63)).toInt64 &&& (1 : Int64)) (1 : Int64) = 0 ↔ mb M i = true := by
  rw [lg_cmp_eq, wb_bit (by omega) (by omega), l_one, lN_eq (by omega) (by omega), mb_1]
def pA (v : Nat) : Nat := v - (v / 2 &&& 85)
def pB (v : Nat) : Nat := (v &&& 51) + (v / 4 &&& 51)
def pC (v : Nat) : Nat := (v + v / 16) % 16
theorem p_t1 : ∀ v, v < 256 → (v / 2 &&& 85) ≤ v ∧ (v / 2 + 128 &&& 85) = (v / 2 &&& 85) ∧ (v / 2 &&& 85) < 256 ∧ pA v < 256 ∧ pB (pA v) ≤ 68 ∧ pB (pA v) % 16 ≤ 4 ∧ pC (pB (pA v)) ≤ 8 ∧ pC (pB (pA v)) = v % 2 + v / 2 % 2 + v / 4 % 2 + v / 8 % 2 + v / 16 % 2 + v / 32 % 2 + v / 64 % 2 + v / 128 % 2 := by decide +kernel
theorem p_t2 : ∀ v, v < 256 → (v / 4 + 64 &&& 51) = (v / 4 &&& 51) ∧ (v / 4 + 128 &&& 51) = (v / 4 &&& 51) ∧ (v / 4 + 192 &&& 51) = (v / 4 &&& 51) ∧ (v &&& 51) + (v / 4 &&& 51) < 256 ∧ (v / 4 &&& 51) < 256 ∧ (v &&& 51) < 256 := by decide +kernel
theorem p_t3 : ∀ v, v < 69 → ∀ t, t < 5 → v % 16 ≤ 4 → (v + v / 16 + 16 * t) &&& 15 = pC v := by decide +kernel
theorem and_s {a b r q : Nat} (ha : a < 256) (hb : b < 256) : (a + 256 * r) &&& (b + 256 * q) = (a &&& b) + 256 * (r &&& q) := by
  apply Nat.eq_of_testBit_eq
  intro i
  have sp : ∀ (x y : Nat), x < 256 → (x + 256 * y).testBit i = if i < 8 then x.testBit i else y.testBit (i - 8) := fun x y hx => by
    rw [Nat.add_comm]
    exact Nat.testBit_two_pow_mul_add (i := 8) y hx i
  have hab : a &&& b < 256 := Nat.and_lt_two_pow (n := 8) a hb
  rw [Nat.testBit_and, sp a r ha, sp b q hb, sp _ _ hab]
  by_cases h : i < 8
  · simp [h]
  · simp [h]
theorem and_5 {a0 a1 a2 a3 a4 m : Nat} (h0 : a0 < 256) (h1 : a1 < 256) (h2 : a2 < 256) (h3 : a3 < 256) (h4 : a4 < 256) (hm : m < 256) :
    (a0 + 256 * (a1 + 256 * (a2 + 256 * (a3 + 256 * a4)))) &&& (m + 256 * (m + 256 * (m + 256 * (m + 256 * (m + 256 * (m + 256 * (m + 256 * m))))))) = (a0 &&& m) + 256 * ((a1 &&& m) + 256 * ((a2 &&& m) + 256 * ((a3 &&& m) + 256 * (a4 &&& m)))) := by
  have e4 : a4 = a4 + 256 * 0 := by omega
  have q4 : a4 &&& (m + 256 * (m + 256 * (m + 256 * m))) = a4 &&& m := by
    have := and_s (a := a4) (b := m) (r := 0) (q := m + 256 * (m + 256 * m)) h4 hm
    rw [Nat.zero_and] at this
    simpa using this
  rw [and_s h0 hm, and_s h1 hm, and_s h2 hm, and_s h3 hm, q4]
theorem bc_nat {x0 x1 x2 x3 x4 M : Nat} (h0 : x0 < 256) (h1 : x1 < 256) (h2 : x2 < 256) (h3 : x3 < 256) (h4 : x4 < 256) (hM : M = x0 + 256 * (x1 + 256 * (x2 + 256 * (x3 + 256 * x4)))) :
    (M / 2 &&& 6148914691236517205) = (x0 / 2 &&& 85) + 256 * ((x1 / 2 &&& 85) + 256 * ((x2 / 2 &&& 85) + 256 * ((x3 / 2 &&& 85) + 256 * (x4 / 2 &&& 85)))) := by
  have d : M / 2 = (x0 / 2 + 128 * (x1 % 2)) + 256 * ((x1 / 2 + 128 * (x2 % 2)) + 256 * ((x2 / 2 + 128 * (x3 % 2)) + 256 * ((x3 / 2 + 128 * (x4 % 2)) + 256 * (x4 / 2)))) := by omega
  have t : ∀ x y, x < 256 → (x / 2 + 128 * (y % 2)) &&& 85 = x / 2 &&& 85 := fun x y hx => by
    rcases Nat.mod_two_eq_zero_or_one y with e | e <;> rw [e]
    · rfl
    · exact (p_t1 x hx).2.1
  rw [d, show (6148914691236517205 : Nat) = 85 + 256 * (85 + 256 * (85 + 256 * (85 + 256 * (85 + 256 * (85 + 256 * (85 + 256 * 85)))))) by decide, and_5 (by omega) (by omega) (by omega) (by omega) (by omega) (by omega), t _ _ h0, t _ _ h1, t _ _ h2, t _ _ h3]
theorem bc_nat2 {x0 x1 x2 x3 x4 M : Nat} (h0 : x0 < 256) (h1 : x1 < 256) (h2 : x2 < 256) (h3 : x3 < 256) (h4 : x4 < 256) (hM : M = x0 + 256 * (x1 + 256 * (x2 + 256 * (x3 + 256 * x4)))) :
    (M &&& 3689348814741910323) + (M / 4 &&& 3689348814741910323) = pB x0 + 256 * (pB x1 + 256 * (pB x2 + 256 * (pB x3 + 256 * pB x4))) := by
  have d : M / 4 = (x0 / 4 + 64 * (x1 % 4)) + 256 * ((x1 / 4 + 64 * (x2 % 4)) + 256 * ((x2 / 4 + 64 * (x3 % 4)) + 256 * ((x3 / 4 + 64 * (x4 % 4)) + 256 * (x4 / 4)))) := by omega
  have t : ∀ x y, x < 256 → (x / 4 + 64 * (y % 4)) &&& 51 = x / 4 &&& 51 := fun x y hx => by
    obtain ⟨q1, q2, q3, _⟩ := p_t2 x hx
    rcases (show y % 4 = 0 ∨ y % 4 = 1 ∨ y % 4 = 2 ∨ y % 4 = 3 by omega) with e | e | e | e <;> rw [e]
    · rfl
    · exact q1
    · exact q2
    · exact q3
  rw [d, hM, show (3689348814741910323 : Nat) = 51 + 256 * (51 + 256 * (51 + 256 * (51 + 256 * (51 + 256 * (51 + 256 * (51 + 256 * 51)))))) by decide, and_5 h0 h1 h2 h3 h4 (by omega), and_5 (by omega) (by omega) (by omega) (by omega) (by omega) (by omega), t _ _ h0, t _ _ h1, t _ _ h2, t _ _ h3]
  unfold pB
  clear d hM t
  omega
theorem bc_nat3 {x0 x1 x2 x3 x4 M : Nat} (h0 : x0 ≤ 68 ∧ x0 % 16 ≤ 4) (h1 : x1 ≤ 68 ∧ x1 % 16 ≤ 4) (h2 : x2 ≤ 68 ∧ x2 % 16 ≤ 4) (h3 : x3 ≤ 68 ∧ x3 % 16 ≤ 4) (h4 : x4 ≤ 68 ∧ x4 % 16 ≤ 4) (hM : M = x0 + 256 * (x1 + 256 * (x2 + 256 * (x3 + 256 * x4)))) :
    (M + M / 16 &&& 1085102592571150095) = pC x0 + 256 * (pC x1 + 256 * (pC x2 + 256 * (pC x3 + 256 * pC x4))) := by
  have d : M + M / 16 = (x0 + x0 / 16 + 16 * (x1 % 16)) + 256 * ((x1 + x1 / 16 + 16 * (x2 % 16)) + 256 * ((x2 + x2 / 16 + 16 * (x3 % 16)) + 256 * ((x3 + x3 / 16 + 16 * (x4 % 16)) + 256 * (x4 + x4 / 16 + 16 * 0)))) := by omega
  rw [d, show (1085102592571150095 : Nat) = 15 + 256 * (15 + 256 * (15 + 256 * (15 + 256 * (15 + 256 * (15 + 256 * (15 + 256 * 15)))))) by decide, and_5 (by omega) (by omega) (by omega) (by omega) (by omega) (by omega), p_t3 _ (by omega) _ (by omega) h0.2, p_t3 _ (by omega) _ (by omega) h1.2, p_t3 _ (by omega) _ (by omega) h2.2, p_t3 _ (by omega) _ (by omega) h3.2, p_t3 _ (by omega) _ (by omega) h4.2]
theorem cntM_8 (M n : Nat) : cntM M (n + 8) = cntM M n + pC (pB (pA (M / 2 ^ n % 256))) := by
  have t := (p_t1 (M / 2 ^ n % 256) (Nat.mod_lt _ (by decide))).2.2.2.2.2.2.2
  have e : ∀ i, M / 2 ^ (n + i) = M / 2 ^ n / 2 ^ i := fun i => by rw [Nat.pow_add, Nat.div_div_eq_div_mul]
  show cntM M n + M / 2 ^ n % 2 + M / 2 ^ (n + 1) % 2 + M / 2 ^ (n + 2) % 2 + M / 2 ^ (n + 3) % 2 + M / 2 ^ (n + 4) % 2 + M / 2 ^ (n + 5) % 2 + M / 2 ^ (n + 6) % 2 + M / 2 ^ (n + 7) % 2 = _
  rw [t, e 1, e 2, e 3, e 4, e 5, e 6, e 7]
  clear t e
  generalize M / 2 ^ n = y
  have f0 : y % 256 % 2 = y % 2 := by omega
  have f1 : y % 256 / 2 % 2 = y / 2 ^ 1 % 2 := by rw [show (2 : Nat) ^ 1 = 2 by rfl]; omega
  have f2 : y % 256 / 4 % 2 = y / 2 ^ 2 % 2 := by rw [show (2 : Nat) ^ 2 = 4 by rfl]; omega
  have f3 : y % 256 / 8 % 2 = y / 2 ^ 3 % 2 := by rw [show (2 : Nat) ^ 3 = 8 by rfl]; omega
  have f4 : y % 256 / 16 % 2 = y / 2 ^ 4 % 2 := by rw [show (2 : Nat) ^ 4 = 16 by rfl]; omega
  have f5 : y % 256 / 32 % 2 = y / 2 ^ 5 % 2 := by rw [show (2 : Nat) ^ 5 = 32 by rfl]; omega
  have f6 : y % 256 / 64 % 2 = y / 2 ^ 6 % 2 := by rw [show (2 : Nat) ^ 6 = 64 by rfl]; omega
  have f7 : y % 256 / 128 % 2 = y / 2 ^ 7 % 2 := by rw [show (2 : Nat) ^ 7 = 128 by rfl]; omega
  rw [f0, f1, f2, f3, f4, f5, f6, f7]
  simp only [Nat.add_assoc]
theorem le5 {a0 a1 a2 a3 a4 b0 b1 b2 b3 b4 : Nat} (h0 : a0 ≤ b0) (h1 : a1 ≤ b1) (h2 : a2 ≤ b2) (h3 : a3 ≤ b3) (h4 : a4 ≤ b4) : a0 + 256 * (a1 + 256 * (a2 + 256 * (a3 + 256 * a4))) ≤ b0 + 256 * (b1 + 256 * (b2 + 256 * (b3 + 256 * b4))) := by omega
theorem sub5 {a0 a1 a2 a3 a4 b0 b1 b2 b3 b4 : Nat} (h0 : a0 ≤ b0) (h1 : a1 ≤ b1) (h2 : a2 ≤ b2) (h3 : a3 ≤ b3) (h4 : a4 ≤ b4) : b0 + 256 * (b1 + 256 * (b2 + 256 * (b3 + 256 * b4))) - (a0 + 256 * (a1 + 256 * (a2 + 256 * (a3 + 256 * a4)))) = (b0 - a0) + 256 * ((b1 - a1) + 256 * ((b2 - a2) + 256 * ((b3 - a3) + 256 * (b4 - a4)))) := by omega
theorem lt5 {a0 a1 a2 a3 a4 : Nat} (h0 : a0 < 256) (h1 : a1 < 256) (h2 : a2 < 256) (h3 : a3 < 256) (h4 : a4 < 256) : a0 + 256 * (a1 + 256 * (a2 + 256 * (a3 + 256 * a4))) < 2 ^ 40 := by omega
theorem dd5 {C : Nat} (k b : Nat) (h : C < 2 ^ b) : C + C / k < 2 ^ (b + 1) := by
  have := Nat.div_le_self C k
  rw [Nat.pow_succ]; omega
theorem bc_fin {c0 c1 c2 c3 c4 C D E : Nat} (h0 : c0 ≤ 8) (h1 : c1 ≤ 8) (h2 : c2 ≤ 8) (h3 : c3 ≤ 8) (h4 : c4 ≤ 8) (hC : C = c0 + 256 * (c1 + 256 * (c2 + 256 * (c3 + 256 * c4)))) (hD : C + C / 256 = D) (hE : D + D / 65536 = E) : (E + E / 4294967296) % 128 = c0 + c1 + c2 + c3 + c4 := by
  have d1 : D = (c0 + c1) + 256 * ((c1 + c2) + 256 * ((c2 + c3) + 256 * ((c3 + c4) + 256 * c4))) := by omega
  have d2 : D / 65536 = (c2 + c3) + 256 * ((c3 + c4) + 256 * c4) := by omega
  have d3 : E = (c0 + c1 + c2 + c3) + 256 * ((c1 + c2 + c3 + c4) + 256 * ((c2 + c3 + c4) + 256 * ((c3 + c4) + 256 * c4))) := by omega
  have d4 : E / 4294967296 = c4 := by omega
  rw [d4]
  omega
theorem md128 (y : Nat) : y % 2 ^ 32 % 128 = y % 128 := by omega
theorem sp_bitCount {X : Xt} {G : Gt} {M : Nat} {Pr : Int32 → Gt → Prop} (hM : M < 2 ^ 40) (hp : Pr (nI (cntM M 40)) G) : wJ13_bitCount_95d88 X G (lN M) Pr := by
  have c40 : cntM M 40 = pC (pB (pA (M % 256))) + pC (pB (pA (M / 256 % 256))) + pC (pB (pA (M / 65536 % 256))) + pC (pB (pA (M / 16777216 % 256))) + pC (pB (pA (M / 4294967296 % 256))) := by
    rw [show (40 : Nat) = 32 + 8 by rfl, cntM_8, show (32 : Nat) = 24 + 8 by rfl, cntM_8, show (24 : Nat) = 16 + 8 by rfl, cntM_8, show (16 : Nat) = 8 + 8 by rfl, cntM_8, show (8 : Nat) = 0 + 8 by rfl, cntM_8]
    show 0 + pC (pB (pA (M / 1 % 256))) + pC (pB (pA (M / 256 % 256))) + pC (pB (pA (M / 65536 % 256))) + pC (pB (pA (M / 16777216 % 256))) + pC (pB (pA (M / 4294967296 % 256))) = _
    rw [Nat.div_one, Nat.zero_add]
  have hx0 : M % 256 < 256 := Nat.mod_lt _ (by decide)
  have hx1 : M / 256 % 256 < 256 := Nat.mod_lt _ (by decide)
  have hx2 : M / 65536 % 256 < 256 := Nat.mod_lt _ (by decide)
  have hx3 : M / 16777216 % 256 < 256 := Nat.mod_lt _ (by decide)
  have hx4 : M / 4294967296 % 256 < 256 := Nat.mod_lt _ (by decide)
  have hMx : M = M % 256 + 256 * (M / 256 % 256 + 256 * (M / 65536 % 256 + 256 * (M / 16777216 % 256 + 256 * (M / 4294967296 % 256)))) := by omega
  revert c40 hx0 hx1 hx2 hx3 hx4 hMx
  generalize M % 256 = x0
  generalize M / 256 % 256 = x1
  generalize M / 65536 % 256 = x2
  generalize M / 16777216 % 256 = x3
  generalize M / 4294967296 % 256 = x4
  intro c40 hx0 hx1 hx2 hx3 hx4 hMx
  obtain ⟨y0, _, z0, w0, u0, v0, s0, _⟩ := p_t1 x0 hx0
  obtain ⟨y1, _, z1, w1, u1, v1, s1, _⟩ := p_t1 x1 hx1
  obtain ⟨y2, _, z2, w2, u2, v2, s2, _⟩ := p_t1 x2 hx2
  obtain ⟨y3, _, z3, w3, u3, v3, s3, _⟩ := p_t1 x3 hx3
  obtain ⟨y4, _, z4, w4, u4, v4, s4, _⟩ := p_t1 x4 hx4
  have a1 := bc_nat hx0 hx1 hx2 hx3 hx4 hMx
  have hAle : (M / 2 &&& 6148914691236517205) ≤ M := by
    rw [a1]
    exact Nat.le_trans (le5 y0 y1 y2 y3 y4) (Nat.le_of_eq hMx.symm)
  have a2 : M - (M / 2 &&& 6148914691236517205) = pA x0 + 256 * (pA x1 + 256 * (pA x2 + 256 * (pA x3 + 256 * pA x4))) := by
    have := sub5 y0 y1 y2 y3 y4
    rw [← hMx, ← a1] at this
    exact this
  generalize hA : M - (M / 2 &&& 6148914691236517205) = A at a2
  have b1 := bc_nat2 w0 w1 w2 w3 w4 a2
  generalize hB : (A &&& 3689348814741910323) + (A / 4 &&& 3689348814741910323) = B at b1
  have d1 := bc_nat3 ⟨u0, v0⟩ ⟨u1, v1⟩ ⟨u2, v2⟩ ⟨u3, v3⟩ ⟨u4, v4⟩ b1
  generalize hC : (B + B / 16 &&& 1085102592571150095) = C at d1
  have hA2 : A < 2 ^ 40 := by rw [a2]; exact lt5 w0 w1 w2 w3 w4
  have lt8 : ∀ {a b : Nat}, a ≤ b → b < 256 → a < 256 := fun h1 h2 => Nat.lt_of_le_of_lt h1 h2
  have hB2 : B < 2 ^ 40 := by rw [b1]; exact lt5 (lt8 u0 (by decide)) (lt8 u1 (by decide)) (lt8 u2 (by decide)) (lt8 u3 (by decide)) (lt8 u4 (by decide))
  have hC2 : C < 2 ^ 40 := by rw [d1]; exact lt5 (lt8 s0 (by decide)) (lt8 s1 (by decide)) (lt8 s2 (by decide)) (lt8 s3 (by decide)) (lt8 s4 (by decide))
  have up : ∀ {a b : Nat}, a < 2 ^ b → b ≤ 64 → a < 2 ^ 64 := fun h1 h2 => Nat.lt_of_lt_of_le h1 (Nat.pow_le_pow_right (by decide) h2)
  have dv : ∀ {a k : Nat}, a < 2 ^ 64 → a / k < 2 ^ 64 := fun h => Nat.lt_of_le_of_lt (Nat.div_le_self _ _) h
  have e1 : ((lN M).toUInt64 >>> ((1 : Int32).toInt64.toUInt64 &&& Int64.toUInt64 63)).toInt64 = lN (M / 2) := wb_shr (n := M) (k := 1) (up hM (by decide)) (by decide)
  have e2 : lN (M / 2) &&& (6148914691236517205 : Int64) = lN (M / 2 &&& 6148914691236517205) := wb_and (b := 6148914691236517205) (dv (up hM (by decide))) (by decide)
  have e3 : lN M - lN (M / 2 &&& 6148914691236517205) = lN A := by rw [lN_sub hAle, hA]
  have e4 : ((lN A).toUInt64 >>> ((2 : Int32).toInt64.toUInt64 &&& Int64.toUInt64 63)).toInt64 = lN (A / 4) := wb_shr (n := A) (k := 2) (up hA2 (by decide)) (by decide)
  have e5 : lN (A / 4) &&& (3689348814741910323 : Int64) = lN (A / 4 &&& 3689348814741910323) := wb_and (b := 3689348814741910323) (dv (up hA2 (by decide))) (by decide)
  have e6 : lN A &&& (3689348814741910323 : Int64) = lN (A &&& 3689348814741910323) := wb_and (b := 3689348814741910323) (up hA2 (by decide)) (by decide)
  have e7 : lN (A &&& 3689348814741910323) + lN (A / 4 &&& 3689348814741910323) = lN B := by rw [lN_add, hB]
  have e8 : ((lN B).toUInt64 >>> ((4 : Int32).toInt64.toUInt64 &&& Int64.toUInt64 63)).toInt64 = lN (B / 16) := wb_shr (n := B) (k := 4) (up hB2 (by decide)) (by decide)
  have e9 : lN B + lN (B / 16) = lN (B + B / 16) := lN_add _ _
  have e10 : lN (B + B / 16) &&& (1085102592571150095 : Int64) = lN C := by
    have := wb_and (a := B + B / 16) (b := 1085102592571150095) (up (dd5 16 40 hB2) (by decide)) (by decide)
    rw [hC] at this
    exact this
  have e11 : ((lN C).toUInt64 >>> ((8 : Int32).toInt64.toUInt64 &&& Int64.toUInt64 63)).toInt64 = lN (C / 256) := wb_shr (n := C) (k := 8) (up hC2 (by decide)) (by decide)
  have e12 : lN C + lN (C / 256) = lN (C + C / 256) := lN_add _ _
  generalize hD : C + C / 256 = D at e12
  have hD2 : D < 2 ^ 41 := by rw [← hD]; exact dd5 256 40 hC2
  have e13 : ((lN D).toUInt64 >>> ((16 : Int32).toInt64.toUInt64 &&& Int64.toUInt64 63)).toInt64 = lN (D / 65536) := wb_shr (n := D) (k := 16) (up hD2 (by decide)) (by decide)
  have e14 : lN D + lN (D / 65536) = lN (D + D / 65536) := lN_add _ _
  generalize hE : D + D / 65536 = E at e14
  have hE2 : E < 2 ^ 42 := by rw [← hE]; exact dd5 65536 41 hD2
  have e15 : ((lN E).toUInt64 >>> ((32 : Int32).toInt64.toUInt64 &&& Int64.toUInt64 63)).toInt64 = lN (E / 4294967296) := wb_shr (n := E) (k := 32) (up hE2 (by decide)) (by decide)
  have e16 : lN E + lN (E / 4294967296) = lN (E + E / 4294967296) := lN_add _ _
  unfold wJ13_bitCount_95d88
  rw [e1, e2, e3, e4, e5, e6, e7, e8, e9, e10, e11, e12, e13, e14, e15, e16, lN_i]
  have e17 : nI (E + E / 4294967296) &&& 127 = nI ((E + E / 4294967296) % 128) := by
    rw [pk_and _ 7 (by decide)]
    congr 1
    show (BitVec.ofNat 32 (E + E / 4294967296)).toNat % 128 = _
    rw [BitVec.toNat_ofNat]
    exact md128 _
  rw [e17, bc_fin s0 s1 s2 s3 s4 d1 hD hE, ← c40]
  exact hp
