/-! ===== bits of longs (the wb rows began as kit/laws/BITS.to-paste) ===== -/
theorem wb_tb (n : Nat) : (lN n).toBitVec = BitVec.ofNat 64 n := rfl
theorem wb_inj {a b : Int64} (h : a.toBitVec = b.toBitVec) : a = b := Int64.toBitVec_inj.mp h
theorem wb_tn {n : Nat} (h : n < 2 ^ 64) : (lN n).toBitVec.toNat = n := by rw [wb_tb, BitVec.toNat_ofNat, Nat.mod_eq_of_lt h]
theorem wb_of (x : Int64) : ∃ n, n < 2 ^ 64 ∧ x = lN n := ⟨x.toBitVec.toNat, x.toBitVec.isLt, wb_inj (by rw [wb_tb]; simp)⟩
theorem wb_of32 (x : Int32) : ∃ n, n < 2 ^ 32 ∧ x = nI n := ⟨x.toBitVec.toNat, x.toBitVec.isLt, Int32.toBitVec_inj.mp (by show _ = BitVec.ofNat 32 _; simp)⟩
theorem wb_c : ∀ k, k < 64 → ((nI k).toInt64 &&& 63) = lN k := by decide +kernel
theorem wb_cu : ∀ k, k < 64 → ((nI k).toInt64.toUInt64 &&& Int64.toUInt64 63) = UInt64.ofNat k := by decide +kernel
theorem wb_sm : ∀ k, k < 64 → (BitVec.ofNat 64 k).smod 64 = BitVec.ofNat 64 k := by decide +kernel
theorem wb_pw {a b : Nat} (h : a ≤ b) : 2 ^ b = 2 ^ a * 2 ^ (b - a) := by rw [← Nat.pow_add]; congr 1; omega
theorem wb_lt2 {a b : Nat} (h : a < b) : 2 ^ a < 2 ^ b := Nat.pow_lt_pow_right (by decide) h
theorem wb_mod (n : Nat) : lN n = lN (n % 2 ^ 64) := wb_inj (by rw [wb_tb, wb_tb]; apply BitVec.eq_of_toNat_eq; rw [BitVec.toNat_ofNat, BitVec.toNat_ofNat, Nat.mod_mod])
theorem wb_shr {n k : Nat} (hn : n < 2 ^ 64) (hk : k < 64) : ((lN n).toUInt64 >>> ((nI k).toInt64.toUInt64 &&& Int64.toUInt64 63)).toInt64 = lN (n / 2 ^ k) := by
  rw [wb_cu k hk]
  apply wb_inj
  apply BitVec.eq_of_toNat_eq
  show ((lN n).toUInt64 >>> UInt64.ofNat k).toNat = (BitVec.ofNat 64 _).toNat
  have h1 : (UInt64.ofNat k).toNat = k := by
    show (BitVec.ofNat 64 k).toNat = k
    rw [BitVec.toNat_ofNat, Nat.mod_eq_of_lt (by omega)]
  have h2 : (lN n).toUInt64.toNat = n := wb_tn hn
  rw [UInt64.toNat_shiftRight, h1, h2, Nat.mod_eq_of_lt hk, Nat.shiftRight_eq_div_pow, BitVec.toNat_ofNat, Nat.mod_eq_of_lt (Nat.lt_of_le_of_lt (Nat.div_le_self _ _) hn)]
theorem wb_shl (n : Nat) {k : Nat} (hk : k < 64) : lN n <<< ((nI k).toInt64 &&& 63) = lN (n * 2 ^ k) := by
  rw [wb_c k hk]
  apply wb_inj
  rw [Int64.toBitVec_shiftLeft, wb_tb, wb_tb, wb_tb, wb_sm k hk]
  apply BitVec.eq_of_toNat_eq
  rw [BitVec.shiftLeft_eq', BitVec.toNat_shiftLeft, BitVec.toNat_ofNat, BitVec.toNat_ofNat, BitVec.toNat_ofNat, Nat.mod_eq_of_lt (show k < 2 ^ 64 by omega), Nat.shiftLeft_eq, Nat.mul_mod, Nat.mod_mod, ← Nat.mul_mod]
theorem wb_and {a b : Nat} (ha : a < 2 ^ 64) (hb : b < 2 ^ 64) : lN a &&& lN b = lN (a &&& b) := by
  apply wb_inj
  rw [Int64.toBitVec_and, wb_tb, wb_tb, wb_tb]
  apply BitVec.eq_of_toNat_eq
  rw [BitVec.toNat_and, BitVec.toNat_ofNat, BitVec.toNat_ofNat, BitVec.toNat_ofNat, Nat.mod_eq_of_lt ha, Nat.mod_eq_of_lt hb, Nat.mod_eq_of_lt (Nat.and_lt_two_pow _ hb)]
theorem wb_or {a b : Nat} (ha : a < 2 ^ 64) (hb : b < 2 ^ 64) : lN a ||| lN b = lN (a ||| b) := by
  apply wb_inj
  rw [Int64.toBitVec_or, wb_tb, wb_tb, wb_tb]
  apply BitVec.eq_of_toNat_eq
  rw [BitVec.toNat_or, BitVec.toNat_ofNat, BitVec.toNat_ofNat, BitVec.toNat_ofNat, Nat.mod_eq_of_lt ha, Nat.mod_eq_of_lt hb, Nat.mod_eq_of_lt (Nat.or_lt_two_pow ha hb)]
theorem wb_mask {n k : Nat} (hn : n < 2 ^ 64) (hk : k < 64) : lN n &&& lN (2 ^ k - 1) = lN (n % 2 ^ k) := by
  rw [wb_and hn (by have := wb_lt2 hk; omega), Nat.and_two_pow_sub_one_eq_mod]
theorem wb_a1 {n : Nat} (hn : n < 2 ^ 64) : lN n &&& 1 = lN (n % 2) := wb_mask (k := 1) hn (by decide)
theorem wb_bit {n k : Nat} (hn : n < 2 ^ 64) (hk : k < 64) : ((lN n).toUInt64 >>> ((nI k).toInt64.toUInt64 &&& Int64.toUInt64 63)).toInt64 &&& 1 = lN (n / 2 ^ k % 2) := by
  rw [wb_shr hn hk, wb_a1 (Nat.lt_of_le_of_lt (Nat.div_le_self _ _) hn)]
/-! ===== masks in naturals; the number of members ===== -/
def mb (M i : Nat) : Bool := M / 2 ^ i % 2 == 1
def cntM (M : Nat) : Nat → Nat
  | 0 => 0
  | n + 1 => cntM M n + M / 2 ^ n % 2
theorem mb_1 {M i : Nat} : mb M i = true ↔ M / 2 ^ i % 2 = 1 := by unfold mb; simp
theorem mb_0 {M i : Nat} : mb M i = false ↔ M / 2 ^ i % 2 = 0 := by
  unfold mb
  have := Nat.mod_two_eq_zero_or_one (M / 2 ^ i)
  rcases this with e | e <;> rw [e] <;> simp
theorem mb_lt {M i : Nat} (h : M < 2 ^ i) : mb M i = false := by
  rw [mb_0, Nat.div_eq_of_lt h]
theorem mb_add {M i j : Nat} (h : M < 2 ^ i) : mb (M + 2 ^ i) j = (mb M j || decide (j = i)) := by
  have hp : 0 < 2 ^ j := Nat.pow_pos (by decide)
  rcases Nat.lt_trichotomy j i with e | e | e
  · have e1 : 2 ^ i = 2 ^ j * 2 ^ (i - j) := wb_pw (by omega)
    have e2 : (M + 2 ^ i) / 2 ^ j = M / 2 ^ j + 2 ^ (i - j) := by rw [e1, Nat.add_mul_div_left _ _ hp]
    have e3 : 2 ^ (i - j) % 2 = 0 := by
      rw [show i - j = (i - j - 1) + 1 by omega, Nat.pow_succ]; omega
    unfold mb
    rw [e2, show (M / 2 ^ j + 2 ^ (i - j)) % 2 = M / 2 ^ j % 2 by omega]
    simp [show ¬ j = i by omega]
  · subst e
    have e2 : (M + 2 ^ j) / 2 ^ j = M / 2 ^ j + 1 := Nat.add_div_right _ hp
    unfold mb
    rw [e2, Nat.div_eq_of_lt h]
    simp
  · have e1 : 2 ^ (i + 1) ≤ 2 ^ j := Nat.pow_le_pow_right (by decide) e
    rw [Nat.pow_succ] at e1
    rw [mb_lt (show M + 2 ^ i < 2 ^ j by omega), mb_lt (show M < 2 ^ j by omega)]
    simp [show ¬ j = i by omega]
theorem mb_pw {i j : Nat} : mb (2 ^ i) j = decide (j = i) := by
  have := mb_add (M := 0) (i := i) (j := j) (Nat.pow_pos (by decide))
  rw [Nat.zero_add] at this
  rw [this]
  have : mb 0 j = false := by unfold mb; simp
  rw [this]; simp
theorem or_pw {M i : Nat} (h : M < 2 ^ i) : M ||| 2 ^ i = M + 2 ^ i := by
  have := Nat.two_pow_add_eq_or_of_lt (i := i) (b := M) h 1
  rw [Nat.mul_one] at this
  rw [Nat.or_comm, ← this, Nat.add_comm]
theorem pw40 {i : Nat} (h : i ≤ 40) : 2 ^ i ≤ 2 ^ 40 := Nat.pow_le_pow_right (by decide) h
theorem l_one : (1 : Int64) = lN 1 := rfl
theorem l_shl {i : Nat} (h : i < 40) : (1 : Int64) <<< ((nI i).toInt64 &&& 63) = lN (2 ^ i) := by
  rw [l_one, wb_shl 1 (by omega), Nat.one_mul]
theorem l_or {M i : Nat} (h : M < 2 ^ i) (hi : i < 40) : lN M ||| lN (2 ^ i) = lN (M + 2 ^ i) := by
  have := pw40 (i := i) (by omega)
  rw [wb_or (by omega) (by omega), or_pw h]
/-- the class's test of a member -/
theorem l_mem {M i : Nat} (hM : M < 2 ^ 40) (hi : i < 40) : lg_cmp (((lN M).toUInt64 >>> ((nI i).toInt64.toUInt64 &&& Int64.toUInt64 63)).toInt64 &&& (1 : Int64)) (1 : Int64) = 0 ↔ mb M i = true := by
  rw [lg_cmp_eq, wb_bit (by omega) (by omega), l_one, lN_eq (by omega) (by omega), mb_1]
def pA (v : Nat) : Nat := v - (v / 2 &&& 85)
def pB (v : Nat) : Nat := (v &&& 51) + (v / 4 &&& 51)
def pC (v : Nat) : Nat := (v + v / 16) % 16
theorem p_t1 : ∀ v, v < 256 → (v / 2 &&& 85) ≤ v ∧ (v / 2 + 128 &&& 85) = (v / 2 &&& 85) ∧ (v / 2 &&& 85) < 256 ∧ pA v < 256 ∧ pB (pA v) ≤ 68 ∧ pB (pA v) % 16 ≤ 4 ∧ pC (pB (pA v)) ≤ 8 ∧ pC (pB (pA v)) = v % 2 + v / 2 % 2 + v / 4 % 2 + v / 8 % 2 + v / 16 % 2 + v / 32 % 2 + v / 64 % 2 + v / 128 % 2 := by decide +kernel
theorem p_t2 : ∀ v, v < 256 → (v / 4 + 64 &&& 51) = (v / 4 &&& 51) ∧ (v / 4 + 128 &&& 51) = (v / 4 &&& 51) ∧ (v / 4 + 192 &&& 51) = (v / 4 &&& 51) ∧ (v &&& 51) + (v / 4 &&& 51) < 256 ∧ (v / 4 &&& 51) < 256 ∧ (v &&& 51) < 256 := by decide +kernel
theorem p_t3 : ∀ v, v < 69 → ∀ t, t < 5 → v % 16 ≤ 4 → (v + v / 16 + 16 * t) &&& 15 = pC v := by decide +kernel
theorem and_s {a b r q : Nat} (ha : a < 256) (hb : b < 256) : (a + 256 * r) &&& (b + 256 * q) = (a &&& b) + 256 * (r &&& q) := by
  apply Nat.eq_of_testBit_eq
  intro i
  have sp : ∀ (x y : Nat), x < 256 → (x + 256 * y).testBit i = if i < 8 then x.testBit i else y.testBit (i - 8) := fun x y hx => by
    rw [Nat.add_comm]
    exact Nat.testBit_two_pow_mul_add (i := 8) y hx i
  have hab : a &&& b < 256 := Nat.and_lt_two_pow (n := 8) a hb
  rw [Nat.testBit_and, sp a r ha, sp b q hb, sp _ _ hab]
  by_cases h : i < 8
  · simp [h]
  · simp [h]
theorem and_5 {a0 a1 a2 a3 a4 m : Nat} (h0 : a0 < 256) (h1 : a1 < 256) (h2 : a2 < 256) (h3 : a3 < 256) (h4 : a4 < 256) (hm : m < 256) :
    (a0 + 256 * (a1 + 256 * (a2 + 256 * (a3 + 256 * a4)))) &&& (m + 256 * (m + 256 * (m + 256 * (m + 256 * (m + 256 * (m + 256 * (m + 256 * m))))))) = (a0 &&& m) + 256 * ((a1 &&& m) + 256 * ((a2 &&& m) + 256 * ((a3 &&& m) + 256 * (a4 &&& m)))) := by
  have e4 : a4 = a4 + 256 * 0 := by omega
  have q4 : a4 &&& (m + 256 * (m + 256 * (m + 256 * m))) = a4 &&& m := by
    have := and_s (a := a4) (b := m) (r := 0) (q := m + 256 * (m + 256 * m)) h4 hm
    rw [Nat.zero_and] at this
    simpa using this
  rw [and_s h0 hm, and_s h1 hm, and_s h2 hm, and_s h3 hm, q4]
theorem sp_bitCount {X : Xt} {G : Gt} {M : Nat} {Pr : Int32 → Gt → Prop} (hM : M < 2 ^ 40) (hp : Pr (nI (cntM M 40)) G) : wJ13_bitCount_95d88 X G (lN M) Pr := by
  sorry
