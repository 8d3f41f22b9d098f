/-! ===== Cache: empty ===== -/
def cntF (cf : Nat → Nat) : Nat → Nat
  | 0 => 0
  | n + 1 => cntF cf n + if cf n = 1 then 1 else 0
theorem cntF_le (cf : Nat → Nat) : ∀ n, cntF cf n ≤ n
  | 0 => Nat.le_refl _
  | n + 1 => by
    have := cntF_le cf n
    show cntF cf n + (if cf n = 1 then 1 else 0) ≤ n + 1
    by_cases e : cf n = 1
    · rw [if_pos e]; omega
    · rw [if_neg e]; omega
section CACHE3
variable {X : Xt} {G : Gt} {q : Nat} {cf cv ct : Nat → Nat} {tm : Nat}
theorem sp_empty {Pr : Int32 → Gt → Prop} (h : CT G q) (hc : CC G q cf cv ct tm) (k : ∀ G', CC G' q (fun _ => 0) cv ct tm → cg G G' (fun a => a = q + 1) → Pr (nI (cntF cf 96)) G') : wX0_empty X G q Pr := by
  refine ⟨fun g a0 x1 x2 => a0 = q ∧ ∃ i, i ≤ 96 ∧ x2 = nI i ∧ x1 = nI (cntF cf i) ∧ cg G g (fun a => a = q + 1) ∧ (∀ p, p < i → gA g (q + 1) p = -1) ∧ ∀ p, i ≤ p → gA g (q + 1) p = gA G (q + 1) p, fun _ _ _ x2 => 96 - x2.toNatClampNeg, ⟨rfl, 0, by omega, rfl, rfl, cg.rf, fun p hp => absurd hp (by omega), fun _ _ => rfl⟩, ?_⟩
  rintro g a0 x1 x2 ⟨rfl, i, hi, rfl, rfl, hcg, h1, h2⟩
  obtain ⟨t1, t2, t3, t4, t5⟩ := h.cg hcg
  have hle := cntF_le cf i
  refine ⟨t1, a0 + 1, t2, by rw [t4], fun z => ?_, fun z => ?_⟩
  · rw [t4] at z
    have z' : 96 ≤ i := (n_le (a := 96) (by decide) (by omega)).mp z
    have e : i = 96 := by omega
    subst e
    exact k g (fun p hp => ⟨fun z => absurd (show (0 : Nat) = 1 from z) (by decide), fun _ => h1 p hp⟩) hcg
  · rw [t4] at z
    have z' : i < 96 := Nat.lt_of_not_le (fun e => z ((n_le (a := 96) (by decide) (by omega)).mpr e))
    have dec : 96 - (nI i + 1).toNatClampNeg < 96 - (nI i).toNatClampNeg := by
      rw [nI_1, n_cl (by omega), n_cl (by omega)]; omega
    have nx : ∀ p, p < i + 1 → gA (sA g (a0 + 1) (upd (gA g (a0 + 1)) i (-1))) (a0 + 1) p = -1 := fun p hp => by
      rw [gA_sA]
      by_cases e : p = i
      · rw [e, pk_us]
      · rw [pk_un e]; exact h1 p (by omega)
    have nx2 : ∀ p, i + 1 ≤ p → gA (sA g (a0 + 1) (upd (gA g (a0 + 1)) i (-1))) (a0 + 1) p = gA G (a0 + 1) p := fun p hp => by
      rw [gA_sA, pk_un (by omega)]; exact h2 p (by omega)
    have vin : vp_in (nI i) (gT g (a0 + 1)).2 := by rw [t4]; exact n_in (show i < 96 from z') (by decide)
    refine ⟨t1, a0 + 1, t2, by rw [t4], vin, ?_⟩
    rw [n_cl (by omega), h2 i (Nat.le_refl _)]
    by_cases e : cf i = 1
    · obtain ⟨c1, c2, c3, c4⟩ := (hc i z').1 e
      rw [c1]
      refine ⟨fun z2 => absurd z2 (n_neg (by omega)), fun _ => ⟨t1, a0 + 1, t2, by rw [t4], vin, ?_⟩⟩
      rintro G2 rfl
      refine ⟨⟨rfl, i + 1, by omega, nI_1 i, ?_, hcg.tr (cg.sA rfl), nx, nx2⟩, dec⟩
      show _ = nI (cntF cf i + if cf i = 1 then 1 else 0)
      rw [if_pos e, nI_1]
    · rw [(hc i z').2 e]
      refine ⟨fun _ => ⟨t1, a0 + 1, t2, by rw [t4], vin, ?_⟩, fun z2 => absurd (by decide) z2⟩
      rintro G2 rfl
      refine ⟨⟨rfl, i + 1, by omega, nI_1 i, ?_, hcg.tr (cg.sA rfl), nx, nx2⟩, dec⟩
      show _ = nI (cntF cf i + if cf i = 1 then 1 else 0)
      rw [if_neg e]; rfl
end CACHE3
