/-! ===== the checksum in naturals ===== -/
theorem n_xor {x y : Nat} : nI x ^^^ nI y = nI (x ^^^ y) := by
  apply Int32.toBitVec_inj.mp
  show (BitVec.ofInt 32 (x : Int)) ^^^ (BitVec.ofInt 32 (y : Int)) = BitVec.ofInt 32 ((x ^^^ y : Nat) : Int)
  simp [BitVec.ofInt_natCast]
def d1 (x : Nat) : Nat := if x % 2 = 1 then (x / 2) ^^^ 40961 else x / 2
def d8r : Nat → Nat → Nat
  | 0, x => x
  | n + 1, x => d8r n (d1 x)
def d8 (x : Nat) : Nat := d8r 8 x
theorem x_lt {a b : Nat} (ha : a < 65536) (hb : b < 65536) : a ^^^ b < 65536 := Nat.xor_lt_two_pow (n := 16) ha hb
theorem x_lt8 {a b : Nat} (ha : a < 256) (hb : b < 256) : a ^^^ b < 256 := Nat.xor_lt_two_pow (n := 8) ha hb
theorem d1_lt {x : Nat} (h : x < 65536) : d1 x < 65536 := by
  unfold d1
  by_cases e : x % 2 = 1
  · rw [if_pos e]; exact x_lt (by omega) (by decide)
  · rw [if_neg e]; omega
theorem d8r_lt : ∀ (n x : Nat), x < 65536 → d8r n x < 65536
  | 0, _, h => h
  | n + 1, _, h => d8r_lt n _ (d1_lt h)
theorem d8_lt {x : Nat} (h : x < 65536) : d8 x < 65536 := d8r_lt 8 x h
theorem c1_n {x : Nat} (h : x < 65536) : c1 (nI x) = nI (d1 x) := by
  unfold c1 d1
  have e1 : nI x &&& 1 = nI (x % 2) := pk_andN (n := x) (by omega) 1 (by decide)
  have e2 : nI x >>> ((1 : Int32) &&& 31) = nI (x / 2) := pk_shrN (by omega) _ 1 (by decide)
  rw [e1, e2]
  by_cases e : x % 2 = 1
  · rw [if_pos e, if_pos (by rw [e]; rfl)]
    exact n_xor (y := 40961)
  · have e0 : x % 2 = 0 := by omega
    rw [if_neg e, if_neg (by rw [e0]; decide)]
theorem c8r_n : ∀ (n x : Nat), x < 65536 → c8r n (nI x) = nI (d8r n x)
  | 0, _, _ => rfl
  | n + 1, x, h => by
    show c8r n (c1 (nI x)) = nI (d8r n (d1 x))
    rw [c1_n h]
    exact c8r_n n _ (d1_lt h)
theorem c8_n {x : Nat} (h : x < 65536) : c8 (nI x) = nI (d8 x) := c8r_n 8 x h
theorem x_div2 (a b : Nat) : (a ^^^ b) / 2 = (a / 2) ^^^ (b / 2) := by
  have h := Nat.shiftRight_xor_distrib (a := a) (b := b) (i := 1)
  simpa [Nat.shiftRight_succ] using h
theorem x_mod2 (a b : Nat) : (a ^^^ b) % 2 = (a % 2 + b % 2) % 2 := by
  have h := Nat.xor_mod_two_pow (a := a) (b := b) (n := 1)
  have h1 : (a ^^^ b) % 2 = (a % 2) ^^^ (b % 2) := h
  rw [h1]
  rcases Nat.mod_two_eq_zero_or_one a with e | e <;> rcases Nat.mod_two_eq_zero_or_one b with f | f <;> rw [e, f] <;> rfl
theorem x_self (a b : Nat) : (a ^^^ b) ^^^ b = a := by rw [Nat.xor_assoc, Nat.xor_self, Nat.xor_zero]
theorem d1_lin (a b : Nat) : d1 (a ^^^ b) = d1 a ^^^ d1 b := by
  unfold d1
  rw [x_mod2, x_div2]
  rcases Nat.mod_two_eq_zero_or_one a with e | e <;> rcases Nat.mod_two_eq_zero_or_one b with f | f <;> rw [e, f]
  · rfl
  · show (a / 2 ^^^ b / 2) ^^^ 40961 = a / 2 ^^^ (b / 2 ^^^ 40961); rw [Nat.xor_assoc]
  · show (a / 2 ^^^ b / 2) ^^^ 40961 = (a / 2 ^^^ 40961) ^^^ b / 2; rw [Nat.xor_assoc, Nat.xor_assoc, Nat.xor_comm (b / 2)]
  · show a / 2 ^^^ b / 2 = (a / 2 ^^^ 40961) ^^^ (b / 2 ^^^ 40961)
    rw [Nat.xor_comm (b / 2) 40961, ← Nat.xor_assoc, Nat.xor_assoc (a / 2) 40961 40961, Nat.xor_self, Nat.xor_zero]
theorem d8r_lin : ∀ (n a b : Nat), d8r n (a ^^^ b) = d8r n a ^^^ d8r n b
  | 0, _, _ => rfl
  | n + 1, a, b => by
    show d8r n (d1 (a ^^^ b)) = d8r n (d1 a) ^^^ d8r n (d1 b)
    rw [d1_lin]
    exact d8r_lin n _ _
theorem d1_even (x : Nat) : d1 (2 * x) = x := by
  unfold d1
  rw [if_neg (by omega)]
  omega
theorem d8_high (q : Nat) : d8 (256 * q) = q := by
  show d1 (d1 (d1 (d1 (d1 (d1 (d1 (d1 (256 * q)))))))) = q
  rw [show 256 * q = 2 * (2 * (2 * (2 * (2 * (2 * (2 * (2 * q))))))) by omega]
  simp only [d1_even]
theorem x_split (q r : Nat) (hr : r < 256) : 256 * q + r = 256 * q ^^^ r := by
  apply Nat.eq_of_testBit_eq
  intro i
  have h1 : (256 * q + r).testBit i = ((256 * q) ||| r).testBit i := by
    have h := Nat.two_pow_add_eq_or_of_lt (i := 8) (b := r) hr q
    rw [show (256 : Nat) = 2 ^ 8 by decide, h]
  rw [h1, Nat.testBit_or, Nat.testBit_xor]
  by_cases hi : i < 8
  · have : (256 * q).testBit i = false := by
      rw [show (256 : Nat) * q = 2 ^ 8 * q by rfl, Nat.testBit_two_pow_mul]
      simp [Nat.not_le.mpr hi]
    rw [this]; simp
  · have : r.testBit i = false := Nat.testBit_lt_two_pow (Nat.lt_of_lt_of_le hr (by
      have : (2 : Nat) ^ 8 ≤ 2 ^ i := Nat.pow_le_pow_right (by decide) (by omega)
      exact this))
    rw [this]; simp
theorem d8_split (x : Nat) : d8 x = (x / 256) ^^^ d8 (x % 256) := by
  have h : x = 256 * (x / 256) ^^^ (x % 256) := by
    rw [← x_split _ _ (Nat.mod_lt _ (by decide))]
    omega
  have h2 : d8 x = d8 (256 * (x / 256) ^^^ (x % 256)) := by rw [← h]
  rw [h2]
  show d8r 8 _ = _
  rw [d8r_lin]
  show d8 (256 * (x / 256)) ^^^ d8 (x % 256) = _
  rw [d8_high]
theorem d8_tab : ∀ b, b < 256 → d8 b / 256 = 0 → b = 0 := by decide +kernel
theorem d8_0 : d8 0 = 0 := by decide
theorem x_eq0 {a b : Nat} (h : a ^^^ b = 0) : a = b := by
  have h1 : (a ^^^ b) ^^^ b = 0 ^^^ b := by rw [h]
  rw [x_self, Nat.zero_xor] at h1
  exact h1
theorem d8_eq0 {z : Nat} (hz : z < 65536) (h : d8 z = 0) : z = 0 := by
  rw [d8_split] at h
  have h1 := x_eq0 h
  have h2 : z % 256 = 0 := d8_tab _ (Nat.mod_lt _ (by decide)) (by rw [← h1]; omega)
  rw [h2, d8_0] at h1
  omega
theorem d8_small {x hi : Nat} (hx : x < 65536) (hh : hi < 256) (h : d8 x = hi) : x % 256 = 0 ∧ x / 256 = hi := by
  rw [d8_split] at h
  have h1 : d8 (x % 256) = hi ^^^ (x / 256) := by rw [← h, Nat.xor_comm (x / 256), x_self]
  have h2 : x % 256 = 0 := d8_tab _ (Nat.mod_lt _ (by decide)) (by rw [h1]; have := x_lt8 hh (show x / 256 < 256 by omega); omega)
  rw [h2, d8_0, Nat.xor_zero] at h
  exact ⟨h2, h⟩
theorem crc_nat {s lo hi : Nat} (hs : s < 65536) (hlo : lo < 256) (hhi : hi < 256) : d8 (d8 (s ^^^ lo) ^^^ hi) = 0 ↔ lo = s % 256 ∧ hi = s / 256 := by
  have hx : s ^^^ lo < 65536 := x_lt hs (by omega)
  have hm : (s ^^^ lo) % 256 = (s % 256) ^^^ lo := by
    have h := Nat.xor_mod_two_pow (a := s) (b := lo) (n := 8)
    have h1 : (s ^^^ lo) % 256 = (s % 256) ^^^ (lo % 256) := h
    rw [h1, Nat.mod_eq_of_lt hlo]
  have hd : (s ^^^ lo) / 256 = s / 256 := by
    have h := Nat.shiftRight_xor_distrib (a := s) (b := lo) (i := 8)
    have h1 : (s ^^^ lo) / 2 ^ 8 = (s / 2 ^ 8) ^^^ (lo / 2 ^ 8) := by simpa [Nat.shiftRight_eq_div_pow] using h
    have h2 : (s ^^^ lo) / 256 = (s / 256) ^^^ (lo / 256) := h1
    rw [h2, Nat.div_eq_of_lt hlo, Nat.xor_zero]
  constructor
  · intro h
    have h1 := x_eq0 (d8_eq0 (x_lt (d8_lt hx) (by omega)) h)
    obtain ⟨h2, h3⟩ := d8_small hx hhi h1
    rw [hm] at h2
    rw [hd] at h3
    exact ⟨(x_eq0 h2).symm, h3.symm⟩
  · rintro ⟨h1, h2⟩
    have h3 : d8 (s ^^^ lo) = hi := by
      rw [d8_split, hm, hd, h1, Nat.xor_self, d8_0, Nat.xor_zero, h2]
    rw [h3, Nat.xor_self]
    exact d8_0
def crcN (s : Nat) : List Nat → Nat
  | [] => s
  | b :: l => crcN (d8 (s ^^^ b)) l
theorem crcN_lt : ∀ (l : List Nat) (s : Nat), s < 65536 → (∀ b ∈ l, b < 256) → crcN s l < 65536
  | [], _, h, _ => h
  | b :: l, s, h, hb => crcN_lt l _ (d8_lt (x_lt h (Nat.lt_of_lt_of_le (hb b List.mem_cons_self) (by decide)))) (fun z hz => hb z (List.mem_cons_of_mem _ hz))
theorem crcN_app (l : List Nat) (s b : Nat) : crcN s (l ++ [b]) = d8 (crcN s l ^^^ b) := by
  induction l generalizing s with
  | nil => rfl
  | cons a l ih => exact ih _
theorem crcI_n : ∀ (l : List Nat) (s : Nat), s < 65536 → (∀ b ∈ l, b < 256) → crcI (nI s) l = nI (crcN s l)
  | [], _, _, _ => rfl
  | b :: l, s, h, hb => by
    have h1 : s ^^^ b < 65536 := x_lt h (Nat.lt_of_lt_of_le (hb b List.mem_cons_self) (by decide))
    show crcI (c8 (nI s ^^^ nI b)) l = nI (crcN (d8 (s ^^^ b)) l)
    rw [n_xor, c8_n h1]
    exact crcI_n l _ (d8_lt h1) (fun z hz => hb z (List.mem_cons_of_mem _ hz))
