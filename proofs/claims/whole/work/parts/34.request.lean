/-! ===== Request: its fields R 0 .. R 9 as in the reference (7, the end, apart) ===== -/
def RQ (G : Gt) (q : Nat) (R : Nat → Nat) (wh : Int32) : Prop := gT G q = (1, 9) ∧ gR G 294 q = some (q + 1) ∧ gT G (q + 1) = (2, R 3) ∧ gI G 288 q = nI (R 0) ∧ gI G 289 q = nI (R 1) ∧ gI G 290 q = nI (R 2) ∧ gI G 291 q = nI (R 3) ∧ gI G 292 q = nI (R 2 + R 3) ∧ gI G 293 q = nI (R 4) ∧ gI G 295 q = nI (R 5) ∧ gI G 296 q = nI (R 6) ∧ gI G 297 q = wh ∧ (R 4 = 1 → gA G (q + 1) 0 = nI (R 9))
/-- ranges of a request's fields -/
def wfR (R : Nat → Nat) : Prop := R 0 < 4 ∧ 1 ≤ R 1 ∧ R 1 ≤ 3 ∧ R 2 ≤ 1000 ∧ 1 ≤ R 3 ∧ R 3 ≤ 16 ∧ R 4 ≤ 1 ∧ (R 4 = 1 → R 3 = 1) ∧ R 5 ≤ 2 ∧ R 6 < 256 ∧ R 9 < 65536
theorem RQ.keep {G G' : Gt} {q : Nat} {R : Nat → Nat} {wh : Int32} (h : RQ G q R wh) (h0 : eqAt G G' q) (h1 : eqAt G G' (q + 1)) : RQ G' q R wh := by
  unfold RQ
  rw [h0.1, h1.1, h0.2.2.2.1, h1.2.2.2.2.1]
  simp only [h0.2.1]
  exact h
section REQ
variable {X : Xt} {G : Gt} {q : Nat} {R : Nat → Nat} {wh : Int32}
theorem sp_settle {st cd : Nat} {w' : Int32} {Pr : Gt → Prop} (h : RQ G q R wh) (k : ∀ G', RQ G' q (fun j => if j = 5 then st else if j = 6 then cd else R j) w' → cg G G' (fun a => a = q) → (∀ f, f ≠ 295 → f ≠ 296 → f ≠ 297 → gI G' f q = gI G f q) → Pr G') : wX8_settle X G q (nI st) (nI cd) w' Pr := by
  obtain ⟨a1, a2, a3, b0, b1, b2, b3, b4, b5, b6, b7, b8, b9⟩ := h
  refine ⟨a1, ?_⟩
  rintro G1 rfl
  refine ⟨a1, ?_⟩
  rintro G2 rfl
  refine ⟨a1, ?_⟩
  rintro G3 rfl
  have other : ∀ f, f ≠ 295 → f ≠ 296 → f ≠ 297 → gI (sI (sI (sI G 295 q (nI st)) 296 q (nI cd)) 297 q w') f q = gI G f q := fun f h1 h2 h3 => by
    rw [gI_sI, if_neg (fun z => h3 z.1), gI_sI, if_neg (fun z => h2 z.1), gI_sI, if_neg (fun z => h1 z.1)]
  refine k _ ⟨a1, a2, a3, ?_, ?_, ?_, ?_, ?_, ?_, ?_, ?_, ?_, b9⟩ (cg.tr (P := fun a => a = q) (cg.sI rfl) (cg.tr (P := fun a => a = q) (cg.sI rfl) (cg.sI rfl))) other
  · rw [other 288 (by decide) (by decide) (by decide)]; exact b0
  · rw [other 289 (by decide) (by decide) (by decide)]; exact b1
  · rw [other 290 (by decide) (by decide) (by decide)]; exact b2
  · rw [other 291 (by decide) (by decide) (by decide)]; exact b3
  · rw [other 292 (by decide) (by decide) (by decide)]; exact b4
  · rw [other 293 (by decide) (by decide) (by decide)]; exact b5
  · rw [gI_sI, if_neg (fun z => absurd z.1 (by decide)), gI_sI, if_neg (fun z => absurd z.1 (by decide)), gI_sI, if_pos ⟨rfl, rfl⟩]; rfl
  · rw [gI_sI, if_neg (fun z => absurd z.1 (by decide)), gI_sI, if_pos ⟨rfl, rfl⟩]; rfl
  · rw [gI_sI, if_pos ⟨rfl, rfl⟩]
theorem sp_overlaps {p : Nat} {S : Nat → Nat} {wp : Int32} {Pr : Int32 → Gt → Prop} (h : RQ G q R wh) (h2 : RQ G p S wp) (r1 : wfR R) (r2 : wfR S) (y : R 2 < S 2 + S 3 → S 2 < R 2 + R 3 → Pr 1 G) (n : ¬ (R 2 < S 2 + S 3 ∧ S 2 < R 2 + R 3) → Pr 0 G) : wX8_overlaps X G q p Pr := by
  obtain ⟨a1, a2, a3, b0, b1, b2, b3, b4, _⟩ := h
  obtain ⟨c1, c2, c3, d0, d1, d2, d3, d4, _⟩ := h2
  obtain ⟨_, _, _, e1, _, e2, _⟩ := r1
  obtain ⟨_, _, _, f1, _, f2, _⟩ := r2
  unfold wX8_overlaps
  rw [b2, b4, d2, d4, n_le (by omega) (by omega), n_le (by omega) (by omega)]
  exact ⟨a1, c1, fun z => n (by omega), fun z => ⟨c1, a1, fun z2 => n (by omega), fun z2 => y (by omega) (by omega)⟩⟩
end REQ
