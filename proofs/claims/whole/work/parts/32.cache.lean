/-! ===== Cache ===== -/
def CT (G : Gt) (q : Nat) : Prop := gT G q = (1, 1) ∧ gR G 32 q = some (q + 1) ∧ gR G 33 q = some (q + 2) ∧ gT G (q + 1) = (2, 96) ∧ gT G (q + 2) = (2, 96)
theorem CT.cg {G G' : Gt} {q : Nat} {P : Nat → Prop} (h : CT G q) (c : cg G G' P) : CT G' q := by
  obtain ⟨_, _, c3, c4, _, _⟩ := c
  unfold CT
  rw [c3, c3, c3, c4, c4]
  exact h
theorem CT.ch {G G' : Gt} {q : Nat} {P : Nat → Prop} (h : CT G q) (hd : q + 2 < gH G) (c : ch G G' P) : CT G' q := by
  obtain ⟨_, c3, _, c4, _⟩ := c
  unfold CT
  rw [c3 _ (by omega), c3 _ (by omega), c3 _ (by omega), c4 _ _ (by omega) (by decide) (by decide), c4 _ _ (by omega) (by decide) (by decide)]
  exact h
/-- whether, what, since when -/
def CC (G : Gt) (q : Nat) (cf cv ct : Nat → Nat) (tm : Nat) : Prop := ∀ p, p < 96 → (cf p = 1 → gA G (q + 1) p = nI (cv p) ∧ gA G (q + 2) p = nI (ct p) ∧ cv p < 65536 ∧ ct p ≤ tm) ∧ (cf p ≠ 1 → gA G (q + 1) p = -1)
theorem CC.keep {G G' : Gt} {q : Nat} {cf cv ct : Nat → Nat} {tm : Nat} (h : CC G q cf cv ct tm) (h1 : eqAt G G' (q + 1)) (h2 : eqAt G G' (q + 2)) : CC G' q cf cv ct tm := by
  unfold CC
  rw [h1.2.2.2.2.1, h2.2.2.2.2.1]
  exact h
theorem CC.tm {G : Gt} {q : Nat} {cf cv ct : Nat → Nat} {tm tm' : Nat} (h : CC G q cf cv ct tm) (ht : tm ≤ tm') : CC G q cf cv ct tm' := fun p hp => ⟨fun e => by
  obtain ⟨a, b, c, d⟩ := (h p hp).1 e
  exact ⟨a, b, c, by omega⟩, (h p hp).2⟩
section CACHE
variable {X : Xt} {G : Gt} {q : Nat} {cf cv ct : Nat → Nat} {tm : Nat} {dv r : Nat}
def plc (dv r : Nat) : Nat := 32 * (dv - 1) + r
theorem plc_lt (h : 1 ≤ dv ∧ dv ≤ 3) (hr : r < 32) : plc dv r < 96 := by unfold plc; omega
theorem sp_placeOf {Pr : Int32 → Gt → Prop} (h : 1 ≤ dv ∧ dv ≤ 3) (hr0 : r < 2 ^ 30) (h1 : r < 32 → Pr (nI (plc dv r)) G) (h0 : ¬ r < 32 → Pr (-1) G) : wX0_placeOf X G (nI dv) (nI r) Pr := by
  refine ⟨fun z => absurd ((n_lt (b := 1) (by omega) (by decide)).mp z) (by omega), fun _ => ⟨fun z => absurd ((n_lt (a := 3) (by decide) (by omega)).mp z) (by omega), fun _ => ⟨fun z => absurd z (n_neg (by omega)), fun _ => ⟨fun z => ?_, fun z => ?_⟩⟩⟩⟩
  · have z' := (n_lt (b := 32) (by omega) (by decide)).mp z
    have e : (nI dv - 1) * 32 + nI r = nI (plc dv r) := by
      rw [show nI dv - 1 = nI (dv - 1) from n_sub (b := 1) h.1, show nI (dv - 1) * 32 = nI ((dv - 1) * 32) from pk_mul _ 32, n_add, Nat.mul_comm]
      rfl
    rw [e]; exact h1 z'
  · exact h0 (fun e => z ((n_lt (b := 32) (by omega) (by decide)).mpr e))
/-- what is cached, -1 if nothing is -/
def cvl (cf cv : Nat → Nat) (p : Nat) : Int32 := if cf p = 1 then nI (cv p) else -1
theorem sp_valueOf {Pr : Int32 → Gt → Prop} (h : CT G q) (hc : CC G q cf cv ct tm) (hd : 1 ≤ dv ∧ dv ≤ 3) (hr : r < 32) (hp : Pr (cvl cf cv (plc dv r)) G) : wX0_valueOf X G q (nI dv) (nI r) Pr := by
  obtain ⟨t1, t2, t3, t4, t5⟩ := h
  have hl := plc_lt hd hr
  refine sp_placeOf hd (by omega) (fun _ => ⟨fun _ => ⟨t1, q + 1, t2, by rw [t4], by rw [t4]; exact n_in hl (by decide), ?_⟩, fun z => absurd (nI_pos' (by omega)) z⟩) (fun z => absurd hr z)
  rw [n_cl (by omega)]
  unfold cvl at hp
  by_cases e : cf (plc dv r) = 1
  · rw [if_pos e] at hp; rw [((hc _ hl).1 e).1]; exact hp
  · rw [if_neg e] at hp; rw [(hc _ hl).2 e]; exact hp
theorem sp_ageOf {now : Nat} {Pr : Int32 → Gt → Prop} (h : CT G q) (hc : CC G q cf cv ct now) (hd : 1 ≤ dv ∧ dv ≤ 3) (hr0 : r < 2 ^ 30) (h1 : r < 32 → cf (plc dv r) = 1 → ct (plc dv r) ≤ now → Pr (nI (now - ct (plc dv r))) G) (h0 : ¬ (r < 32 ∧ cf (plc dv r) = 1) → Pr (-1) G) : wX0_ageOf X G q (nI dv) (nI r) (nI now) Pr := by
  obtain ⟨t1, t2, t3, t4, t5⟩ := h
  refine sp_placeOf hd hr0 (fun hr => ?_) (fun hr => ⟨fun _ => h0 (fun e => hr e.1), fun z => absurd (by decide) z⟩)
  have hl := plc_lt hd hr
  refine ⟨fun z => absurd z (n_neg (by omega)), fun _ => ⟨t1, q + 1, t2, by rw [t4], by rw [t4]; exact n_in hl (by decide), ?_⟩⟩
  rw [n_cl (by omega)]
  by_cases e : cf (plc dv r) = 1
  · obtain ⟨a, b, c, d⟩ := (hc _ hl).1 e
    rw [a]
    refine ⟨fun _ => ⟨t1, q + 2, t3, by rw [t5], by rw [t5]; exact n_in hl (by decide), ?_⟩, fun z => absurd (nI_pos' (by omega)) z⟩
    rw [b, n_sub d]
    exact h1 hr e d
  · rw [(hc _ hl).2 e]
    exact ⟨fun z => absurd z (by decide), fun _ => h0 (fun z => e z.2)⟩
theorem sp_isFresh {now lf : Nat} {Pr : Int32 → Gt → Prop} (h : CT G q) (hc : CC G q cf cv ct now) (hd : 1 ≤ dv ∧ dv ≤ 3) (hr0 : r < 2 ^ 30) (hn : now < 2 ^ 30) (hlf : lf < 2 ^ 30) (h1 : r < 32 → cf (plc dv r) = 1 → now - ct (plc dv r) ≤ lf → Pr 1 G) (h0 : ¬ (r < 32 ∧ cf (plc dv r) = 1 ∧ now - ct (plc dv r) ≤ lf) → Pr 0 G) : wX0_isFresh X G q (nI dv) (nI r) (nI now) (nI lf) Pr := by
  refine ⟨h.1, sp_ageOf h hc hd hr0 (fun a b c => ⟨fun z => absurd z (n_neg (by omega)), fun _ => ⟨fun z => h0 (fun e => ?_), fun z => h1 a b ?_⟩⟩) (fun a => ⟨fun _ => h0 (fun e => a ⟨e.1, e.2.1⟩), fun z => absurd (by decide) z⟩)⟩
  · have z' := (n_lt (by omega) (by omega)).mp z
    omega
  · exact Nat.le_of_not_lt (fun e => z ((n_lt (by omega) (by omega)).mpr e))
end CACHE
