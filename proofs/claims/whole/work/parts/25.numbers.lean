/-! ===== numbers ===== -/
theorem n_le {a b : Nat} (ha : a < 2 ^ 31) (hb : b < 2 ^ 31) : nI a ≤ nI b ↔ a ≤ b := nI_leI ha hb
theorem n_lt {a b : Nat} (ha : a < 2 ^ 31) (hb : b < 2 ^ 31) : nI a < nI b ↔ a < b := nI_ltI ha hb
theorem n_cl {n : Nat} (h : n < 2 ^ 31) : (nI n).toNatClampNeg = n := nI_clamp h
theorem n_in {i n : Nat} (h : i < n) (hn : n < 2 ^ 31) : vp_in (nI i) n := vp_in_nI h hn
theorem n_neg {n : Nat} (h : n < 2 ^ 31) : ¬ nI n < 0 := nI_pos h
theorem n_inj {a b : Nat} (ha : a < 2 ^ 31) (hb : b < 2 ^ 31) (h : nI a = nI b) : a = b := (nI_eq ha hb).mp h
theorem n_sub {a b : Nat} (h : b ≤ a) : nI a - nI b = nI (a - b) := pk_sub h
theorem n_mod256 {x : Nat} (h : x < 2 ^ 31) : nI x &&& 255 = nI (x % 256) := pk_andN (n := x) (by omega) 8 (by decide)
theorem n_shr8 {x : Nat} (h : x < 2 ^ 31) : nI x >>> ((8 : Int32) &&& 31) = nI (x / 256) := pk_shrN h _ 8 (by decide)
theorem n_shl8 {x : Nat} (h : x < 65536) : nI x <<< ((8 : Int32) &&& 31) = nI (x * 256) := pk_shlN (n := x) _ 8 (by decide) (by omega)
theorem n_or {x y : Nat} : nI x ||| nI y = nI (x ||| y) := by
  apply Int32.toBitVec_inj.mp
  show (BitVec.ofInt 32 (x : Int)) ||| (BitVec.ofInt 32 (y : Int)) = BitVec.ofInt 32 ((x ||| y : Nat) : Int)
  simp [BitVec.ofInt_natCast]
theorem n_word {x y : Nat} (hy : y < 256) : x * 256 ||| y = x * 256 + y := by
  have h := Nat.two_pow_add_eq_or_of_lt (i := 8) (b := y) hy x
  rw [Nat.mul_comm x 256]
  exact h.symm
/-! ===== the checksum ===== -/
def c1 (s : Int32) : Int32 := if (s &&& 1) = 1 then (s >>> (1 &&& 31)) ^^^ 40961 else s >>> (1 &&& 31)
def c8r : Nat → Int32 → Int32
  | 0, s => s
  | n + 1, s => c8r n (c1 s)
def c8 (s : Int32) : Int32 := c8r 8 s
def crcI (s : Int32) : List Nat → Int32
  | [] => s
  | b :: l => crcI (c8 (s ^^^ nI b)) l
theorem crcI_app (s : Int32) (l : List Nat) (b : Nat) : crcI s (l ++ [b]) = c8 (crcI s l ^^^ nI b) := by
  induction l generalizing s with
  | nil => rfl
  | cons a l ih => exact ih _
section FRA
variable {X : Xt} {G : Gt}
theorem sp_nextSum {x0 x1 : Int32} {Pr : Int32 → Gt → Prop} (h : Pr (c8 (x0 ^^^ x1)) G) : wX9_nextSum X G x0 x1 Pr := by
  refine ⟨fun g x2 x3 => g = G ∧ ∃ k, k ≤ 8 ∧ x3 = nI k ∧ c8r (8 - k) x2 = c8 (x0 ^^^ x1), fun _ _ x3 => 8 - x3.toNatClampNeg, ⟨rfl, 0, by omega, rfl, rfl⟩, ?_⟩
  rintro g x2 x3 ⟨rfl, k, hk, rfl, hc⟩
  unfold wX9_nextSum_6
  have hcl : (nI k).toNatClampNeg = k := n_cl (by omega)
  have hcl1 : (nI k + 1).toNatClampNeg = k + 1 := by rw [nI_1]; exact n_cl (by omega)
  refine ⟨fun h8 => ?_, fun h8 => ?_⟩
  · have h9 : 8 ≤ k := (n_le (a := 8) (by decide) (by omega)).mp h8
    have e : k = 8 := by omega
    subst e
    have hc' : x2 = c8 (x0 ^^^ x1) := hc
    rw [hc']
    exact h
  · have h9 : ¬ 8 ≤ k := fun z => h8 ((n_le (a := 8) (by decide) (by omega)).mpr z)
    have e : c8r (8 - (k + 1)) (c1 x2) = c8 (x0 ^^^ x1) := by
      rw [← hc, show 8 - k = (8 - (k + 1)) + 1 by omega]
      rfl
    refine ⟨fun h1 => ⟨⟨rfl, k + 1, by omega, nI_1 k, ?_⟩, ?_⟩, fun h1 => ⟨⟨rfl, k + 1, by omega, nI_1 k, ?_⟩, ?_⟩⟩
    · rw [← e]; unfold c1; rw [if_neg h1]
    · dsimp only; rw [hcl, hcl1]; omega
    · rw [← e]; unfold c1; rw [if_pos h1]
    · dsimp only; rw [hcl, hcl1]; omega
theorem sp_stirred {x0 x1 : Int32} {Pr : Int32 → Gt → Prop} (h : Pr (c8 (x0 ^^^ x1)) G) : wX10_stirred X G x0 x1 Pr := by
  refine ⟨fun g x2 x3 => g = G ∧ ∃ k, k ≤ 8 ∧ x3 = nI k ∧ c8r (8 - k) x2 = c8 (x0 ^^^ x1), fun _ _ x3 => 8 - x3.toNatClampNeg, ⟨rfl, 0, by omega, rfl, rfl⟩, ?_⟩
  rintro g x2 x3 ⟨rfl, k, hk, rfl, hc⟩
  unfold wX10_stirred_6
  have hcl : (nI k).toNatClampNeg = k := n_cl (by omega)
  have hcl1 : (nI k + 1).toNatClampNeg = k + 1 := by rw [nI_1]; exact n_cl (by omega)
  refine ⟨fun h8 => ?_, fun h8 => ?_⟩
  · have h9 : 8 ≤ k := (n_le (a := 8) (by decide) (by omega)).mp h8
    have e : k = 8 := by omega
    subst e
    have hc' : x2 = c8 (x0 ^^^ x1) := hc
    rw [hc']
    exact h
  · have h9 : ¬ 8 ≤ k := fun z => h8 ((n_le (a := 8) (by decide) (by omega)).mpr z)
    have e : c8r (8 - (k + 1)) (c1 x2) = c8 (x0 ^^^ x1) := by
      rw [← hc, show 8 - k = (8 - (k + 1)) + 1 by omega]
      rfl
    refine ⟨fun h1 => ⟨⟨rfl, k + 1, by omega, nI_1 k, ?_⟩, ?_⟩, fun h1 => ⟨⟨rfl, k + 1, by omega, nI_1 k, ?_⟩, ?_⟩⟩
    · rw [← e]; unfold c1; rw [if_neg h1]
    · dsimp only; rw [hcl, hcl1]; omega
    · rw [← e]; unfold c1; rw [if_pos h1]
    · dsimp only; rw [hcl, hcl1]; omega
end FRA
