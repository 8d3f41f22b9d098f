/-! ===== what a gathered group is ===== -/
section GAT
variable {R : Nat → Nat → Nat} {q m : Nat}
theorem gat_lt : ∀ n, (gat R q n).1 < 2 ^ (q + 1 + n)
  | 0 => by show 2 ^ q < 2 ^ (q + 1); exact Nat.pow_lt_pow_right (by decide) (by omega)
  | n + 1 => by
    have ih := gat_lt n
    have e : 2 ^ (q + 1 + (n + 1)) = 2 ^ (q + 1 + n) + 2 ^ (q + 1 + n) := by rw [show q + 1 + (n + 1) = (q + 1 + n) + 1 by omega, Nat.pow_succ]; omega
    rw [gat_s, e]
    by_cases h : fitB R q (gat R q n).2.1 (gat R q n).2.2 (q + 1 + n) ∧ ¬ held R q (gat R q n).1 (q + 1 + n)
    · rw [gstep_y h.1 h.2]
      show (gat R q n).1 + 2 ^ (q + 1 + n) < _
      omega
    · rw [gstep_n h]; omega
/-- what holds of a group at every moment -/
def gok (R : Nat → Nat → Nat) (q n : Nat) (g : Nat × Nat × Nat) : Prop := g.2.1 < g.2.2 ∧ g.2.2 ≤ 1016 ∧ g.2.2 - g.2.1 ≤ (if R q 4 = 1 then 8 else 16) ∧ mb g.1 q = true ∧ (∀ i, mb g.1 i = true → q ≤ i ∧ i ≤ q + n ∧ R i 5 = 0 ∧ R i 1 = R q 1 ∧ R i 4 = R q 4 ∧ g.2.1 ≤ R i 2 ∧ R i 2 + R i 3 ≤ g.2.2) ∧ (R q 4 = 1 → ∀ r, g.2.1 ≤ r → r < g.2.2 → ∃ i, mb g.1 i = true ∧ R i 2 = r)
theorem gat_ok (hm : ∀ i, i < m → wfR (R i)) (hq : R q 5 = 0) : ∀ n, q + n < m → gok R q n (gat R q n)
  | 0, hn => by
    obtain ⟨_, _, _, h4, h5, h6, h7, h8, _⟩ := hm q (by omega)
    show gok R q 0 (2 ^ q, R q 2, R q 2 + R q 3)
    refine ⟨?_, ?_, ?_, ?_, fun i hi => ?_, fun hw r h1 h2 => ?_⟩
    · show R q 2 < R q 2 + R q 3; omega
    · show R q 2 + R q 3 ≤ 1016; omega
    · show R q 2 + R q 3 - R q 2 ≤ _
      by_cases e : R q 4 = 1
      · rw [if_pos e]; have := h8 e; omega
      · rw [if_neg e]; omega
    · show mb (2 ^ q) q = true; rw [mb_pw]; simp
    · have hi' : mb (2 ^ q) i = true := hi
      rw [mb_pw] at hi'
      have e : i = q := by simpa using hi'
      subst e
      exact ⟨Nat.le_refl _, by omega, hq, rfl, rfl, Nat.le_refl _, Nat.le_refl _⟩
    · have h1' : R q 2 ≤ r := h1
      have h2' : r < R q 2 + R q 3 := h2
      have := h8 hw
      exact ⟨q, by show mb (2 ^ q) q = true; rw [mb_pw]; simp, by omega⟩
  | n + 1, hn => by
    have ih := gat_ok hm hq n (by omega)
    obtain ⟨a1, a2, a3, a4, a5, a6⟩ := id ih
    obtain ⟨_, _, _, h4, h5, h6, h7, h8, _⟩ := hm (q + 1 + n) (by omega)
    rw [gat_s]
    by_cases h : fitB R q (gat R q n).2.1 (gat R q n).2.2 (q + 1 + n) ∧ ¬ held R q (gat R q n).1 (q + 1 + n)
    · rw [gstep_y h.1 h.2]
      obtain ⟨f1, f2, f3, f4, f5, f6⟩ := h.1
      have hlt := gat_lt (R := R) (q := q) n
      generalize gat R q n = g at *
      have hb : ∀ i, mb (g.1 + 2 ^ (q + 1 + n)) i = (mb g.1 i || decide (i = q + 1 + n)) := fun i => mb_add hlt
      refine ⟨?_, ?_, f6, ?_, fun i hi => ?_, fun hw r h1 h2 => ?_⟩
      · show min g.2.1 (R (q + 1 + n) 2) < max g.2.2 (R (q + 1 + n) 2 + R (q + 1 + n) 3); omega
      · show max g.2.2 (R (q + 1 + n) 2 + R (q + 1 + n) 3) ≤ 1016; omega
      · show mb (g.1 + 2 ^ (q + 1 + n)) q = true
        rw [hb, a4]; rfl
      · have hi' : mb (g.1 + 2 ^ (q + 1 + n)) i = true := hi
        rw [hb] at hi'
        show q ≤ i ∧ i ≤ q + (n + 1) ∧ R i 5 = 0 ∧ R i 1 = R q 1 ∧ R i 4 = R q 4 ∧ min g.2.1 (R (q + 1 + n) 2) ≤ R i 2 ∧ R i 2 + R i 3 ≤ max g.2.2 (R (q + 1 + n) 2 + R (q + 1 + n) 3)
        rcases Bool.or_eq_true_iff.mp hi' with e | e
        · obtain ⟨b1, b2, b3, b4, b5, b6, b7⟩ := a5 i e
          exact ⟨b1, by omega, b3, b4, b5, by omega, by omega⟩
        · have e' : i = q + 1 + n := by simpa using e
          subst e'
          exact ⟨by omega, by omega, f1, f2, f3, by omega, by omega⟩
      · have h1' : min g.2.1 (R (q + 1 + n) 2) ≤ r := h1
        have h2' : r < max g.2.2 (R (q + 1 + n) 2 + R (q + 1 + n) 3) := h2
        have h3 : R (q + 1 + n) 3 = 1 := h8 (f3.trans hw)
        by_cases e : r = R (q + 1 + n) 2
        · exact ⟨q + 1 + n, by show mb (g.1 + 2 ^ (q + 1 + n)) (q + 1 + n) = true; rw [hb]; simp, e.symm⟩
        · obtain ⟨i, b1, b2⟩ := a6 hw r (by omega) (by omega)
          exact ⟨i, by show mb (g.1 + 2 ^ (q + 1 + n)) i = true; rw [hb, b1]; rfl, b2⟩
    · rw [gstep_n h]
      refine ⟨a1, a2, a3, a4, fun i hi => ?_, a6⟩
      obtain ⟨b1, b2, b3⟩ := a5 i hi
      exact ⟨b1, by omega, b3⟩
theorem wvk_hit {M r : Nat} : ∀ n, (∃ i, q ≤ i ∧ i < q + n ∧ mb M i = true ∧ R i 2 = r) → ∃ i, q ≤ i ∧ i < q + n ∧ mb M i = true ∧ R i 2 = r ∧ wvk R M q r n = R i 9
  | 0, ⟨i, h1, h2, _⟩ => absurd h2 (by omega)
  | n + 1, ⟨i, h1, h2, h3, h4⟩ => by
    by_cases h : mb M (q + n) = true ∧ R (q + n) 2 = r
    · exact ⟨q + n, by omega, by omega, h.1, h.2, wvk_y h.1 h.2⟩
    · have hne : i ≠ q + n := fun e => h (by rw [← e]; exact ⟨h3, h4⟩)
      obtain ⟨j, b1, b2, b3, b4, b5⟩ := wvk_hit (M := M) (r := r) n ⟨i, h1, by omega, h3, h4⟩
      exact ⟨j, b1, by omega, b3, b4, by rw [wvk_n h]; exact b5⟩
theorem wvk_lt {M r : Nat} (hm : ∀ i, i < m → wfR (R i)) : ∀ n, q + n ≤ m → wvk R M q r n < 65536
  | 0, _ => by show 0 < 65536; decide
  | n + 1, h => by
    have ih := wvk_lt (M := M) (r := r) hm n (by omega)
    obtain ⟨_, _, _, _, _, _, _, _, _, _, h9⟩ := hm (q + n) (by omega)
    by_cases e : mb M (q + n) = true ∧ R (q + n) 2 = r
    · rw [wvk_y e.1 e.2]; exact h9
    · rw [wvk_n e]; exact ih
end GAT
