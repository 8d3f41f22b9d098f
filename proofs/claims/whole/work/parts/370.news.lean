/-! ===== new objects ===== -/
section NEWS
variable {X : Xt} {G : Gt}
theorem nO_t {g : Gt} {ci n : Nat} : gT (nO g ci n) (gH g) = (1, ci) := va_up_self _ _ _
theorem nA_t {g : Gt} {n : Nat} : gT (nA g n) (gH g) = (2, n) := va_up_self _ _ _
theorem nA_a {g : Gt} {n : Nat} : gA (nA g n) (gH g) = fun _ => 0 := va_up_self _ _ _
theorem nA_o {g : Gt} {n a : Nat} (h : a ≠ gH g) : eqAt g (nA g n) a := eqAt.nA h
theorem nO_o {g : Gt} {ci n a : Nat} (h : a ≠ gH g) : eqAt g (nO g ci n) a := eqAt.nO h
theorem sp_newFrame {Pr : Gt → Prop} (r1 : gH G + 2 ≤ xC X) (r2 : gU G + 39 ≤ xS X) (k : ∀ G', gT G' (gH G) = (1, 4) → gR G' 128 (gH G) = some (gH G + 1) → gT G' (gH G + 1) = (2, 37) → gH G' = gH G + 2 → gU G' = gU G + 39 → ch G G' (fun _ => False) → Pr G') : wX3_init X (nO G 4 2) (gH G) Pr := by
  refine ⟨by show gH G + 1 + 1 ≤ _; omega, by show gU G + 2 + 37 ≤ _; omega, ?_⟩
  rintro G1 rfl
  have k0 : gT (nA (nO G 4 2) 37) (gH G) = (1, 4) := by
    rw [(nA_o (g := nO G 4 2) (n := 37) (show gH G ≠ gH G + 1 by omega)).1]; exact nO_t
  refine ⟨k0, ?_⟩
  rintro G2 rfl
  refine ⟨k0, ?_⟩
  rintro G3 rfl
  refine k _ k0 ?_ (nA_t (g := nO G 4 2)) rfl rfl (cn_sI (cn_sR (ch.nO.tr ch.nA) (Nat.le_refl _)) (Nat.le_refl _))
  show gR (sR (nA (nO G 4 2) 37) 128 (gH G) (some (gH G + 1))) 128 (gH G) = _
  rw [gR_sR, if_pos ⟨rfl, rfl⟩]
theorem sp_newDevice {Pr : Gt → Prop} (r1 : gH G + 4 ≤ xC X) (r2 : gU G + 51 ≤ xS X) (k : ∀ G', DT G' (gH G) → DC G' (gH G) (fun _ => 0) (fun _ => 0) 65535 5 [] → gH G' = gH G + 4 → gU G' = gU G + 51 → ch G G' (fun _ => False) → Pr G') : wX2_init X (nO G 3 7) (gH G) Pr := by
  refine ⟨by show gH G + 1 + 1 ≤ _; omega, by show gU G + 7 + 32 ≤ _; omega, ?_⟩
  rintro G1 rfl
  have h1 : gH (nO G 3 7) = gH G + 1 := rfl
  have k1 : gT (nA (nO G 3 7) 32) (gH G) = (1, 3) := by
    rw [(nA_o (g := nO G 3 7) (n := 32) (show gH G ≠ gH G + 1 by omega)).1]; exact nO_t
  refine ⟨k1, ?_⟩
  rintro G2 rfl
  refine ⟨by show gH G + 1 + 1 + 1 ≤ _; omega, by show gU G + 7 + 32 + 6 ≤ _; omega, ?_⟩
  rintro G3 rfl
  generalize hA : sR (nA (nO G 3 7) 32) 96 (gH G) (some (gH (nO G 3 7))) = A
  have a0 : gT A (gH G) = (1, 3) := by rw [← hA]; exact k1
  have a1 : gT A (gH G + 1) = (2, 32) := by rw [← hA]; exact nA_t (g := nO G 3 7)
  have a2 : gA A (gH G + 1) = fun _ => 0 := by rw [← hA]; exact nA_a (g := nO G 3 7) (n := 32)
  have a3 : gR A 96 (gH G) = some (gH G + 1) := by rw [← hA, gR_sR, if_pos ⟨rfl, rfl⟩]; rfl
  have a4 : gH A = gH G + 2 := by rw [← hA]; rfl
  have a5 : gU A = gU G + 39 := by rw [← hA]; rfl
  have a6 : ch G A (fun _ => False) := by rw [← hA]; exact cn_sR (ch.nO.tr ch.nA) (Nat.le_refl _)
  have q : ∀ {a : Nat}, a < gH A → eqAt A (nA A 6) a := fun h => nA_o (by omega)
  refine ⟨by rw [(q (by omega)).1]; exact a0, ?_⟩
  rintro G4 rfl
  generalize hB : sR (nA A 6) 97 (gH G) (some (gH A)) = B
  have b0 : gT B (gH G) = (1, 3) := by rw [← hB]; show gT (nA A 6) (gH G) = _; rw [(q (by omega)).1]; exact a0
  have b1 : gT B (gH G + 1) = (2, 32) := by rw [← hB]; show gT (nA A 6) (gH G + 1) = _; rw [(q (by omega)).1]; exact a1
  have b2 : gA B (gH G + 1) = fun _ => 0 := by rw [← hB]; show gA (nA A 6) (gH G + 1) = _; rw [(q (by omega)).2.2.2.2.1]; exact a2
  have b3 : gR B 96 (gH G) = some (gH G + 1) := by rw [← hB, gR_sR, if_neg (fun z => absurd z.1 (by decide))]; show gR (nA A 6) 96 (gH G) = _; rw [(q (by omega)).2.2.2.1]; exact a3
  have b4 : gR B 97 (gH G) = some (gH G + 2) := by rw [← hB, gR_sR, if_pos ⟨rfl, rfl⟩, a4]
  have b5 : gT B (gH G + 2) = (2, 6) := by rw [← hB, ← a4]; exact nA_t
  have b6 : gA B (gH G + 2) = fun _ => 0 := by rw [← hB, ← a4]; exact nA_a (n := 6)
  have b7 : gH B = gH G + 3 := by rw [← hB]; show gH A + 1 = _; omega
  have b8 : gU B = gU G + 45 := by rw [← hB]; show gU A + 6 = _; omega
  have b9 : ch G B (fun _ => False) := by rw [← hB]; exact cn_sR (a6.tr ch.nA) (Nat.le_refl _)
  refine ⟨by omega, by omega, ?_⟩
  rintro G5 rfl
  have q2 : ∀ {a : Nat}, a < gH B → eqAt B (nA B 6) a := fun h => nA_o (by omega)
  have c0 : gT (nA B 6) (gH G) = (1, 3) := by rw [(q2 (by omega)).1]; exact b0
  refine ⟨c0, ?_⟩
  rintro G6 rfl
  refine ⟨c0, ?_⟩
  rintro G7 rfl
  refine ⟨c0, ?_⟩
  rintro G8 rfl
  refine ⟨c0, ?_⟩
  rintro G9 rfl
  refine ⟨c0, ?_⟩
  rintro G10 rfl
  refine k _ ⟨c0, ?_, ?_, ?_, ?_, ?_, ?_⟩ ⟨fun r hr => ⟨?_, (show (0 : Nat) < 65536 by decide)⟩, ?_, by simp, fun j hj => absurd hj (by simp), fun p hp => absurd hp (by simp), fun r hr => ?_, ?_, by decide, ?_, by decide⟩ ?_ ?_ ?_
  · show gR (sR (nA B 6) 98 (gH G) (some (gH B))) 96 (gH G) = _
    rw [gR_sR, if_neg (fun z => absurd z.1 (by decide))]; show gR (nA B 6) 96 (gH G) = _; rw [(q2 (by omega)).2.2.2.1]; exact b3
  · show gR (sR (nA B 6) 98 (gH G) (some (gH B))) 97 (gH G) = _
    rw [gR_sR, if_neg (fun z => absurd z.1 (by decide))]; show gR (nA B 6) 97 (gH G) = _; rw [(q2 (by omega)).2.2.2.1]; exact b4
  · show gR (sR (nA B 6) 98 (gH G) (some (gH B))) 98 (gH G) = _
    rw [gR_sR, if_pos ⟨rfl, rfl⟩, b7]
  · show gT (nA B 6) (gH G + 1) = _; rw [(q2 (by omega)).1]; exact b1
  · show gT (nA B 6) (gH G + 2) = _; rw [(q2 (by omega)).1]; exact b5
  · show gT (nA B 6) (gH G + 3) = _; rw [← b7]; exact nA_t
  · show gA (nA B 6) (gH G + 1) r = _; rw [(q2 (by omega)).2.2.2.2.1, b2]; rfl
  · show gI (sI (sI (sI (sI (sR (nA B 6) 98 (gH G) (some (gH B))) 99 (gH G) 0) 100 (gH G) 0) 101 (gH G) 65535) 102 (gH G) 5) 99 (gH G) = nI 0
    simp [gI_sI]; rfl
  · have e : gI (sI (sI (sI (sI (sR (nA B 6) 98 (gH G) (some (gH B))) 99 (gH G) 0) 100 (gH G) 0) 101 (gH G) 65535) 102 (gH G) 5) 100 (gH G) = 0 := by simp [gI_sI]
    rw [e]
    constructor
    · intro z
      have : ∀ r, r < 32 → ((((0 : Int32).toUInt32 >>> ((nI r).toUInt32 &&& Int32.toUInt32 31)).toInt32 &&& 1) = 1) = False := by decide +kernel
      rw [this r hr] at z
      exact z.elim
    · intro z; exact absurd (show (0 : Nat) = 1 from z) (by decide)
  · show gI (sI (sI (sI (sI (sR (nA B 6) 98 (gH G) (some (gH B))) 99 (gH G) 0) 100 (gH G) 0) 101 (gH G) 65535) 102 (gH G) 5) 101 (gH G) = nI 65535
    simp [gI_sI]; rfl
  · show gI (sI (sI (sI (sI (sR (nA B 6) 98 (gH G) (some (gH B))) 99 (gH G) 0) 100 (gH G) 0) 101 (gH G) 65535) 102 (gH G) 5) 102 (gH G) = nI 5
    simp [gI_sI]; rfl
  · show gH B + 1 = _; omega
  · show gU B + 6 = _; omega
  · exact cn_sI (cn_sI (cn_sI (cn_sI (cn_sR (b9.tr ch.nA) (Nat.le_refl _)) (Nat.le_refl _)) (Nat.le_refl _)) (Nat.le_refl _)) (Nat.le_refl _)
theorem sp_fill {a n : Nat} {x : Int32} {Pr : Gt → Prop} (h : gT G a = (2, n)) (hn : n < 2 ^ 30) (k : ∀ G', (∀ j, j < n → gA G' a j = x) → cg G G' (fun b => b = a) → Pr G') : wJ7_fill_53178 X G a x Pr := by
  refine ⟨by rw [h], ?_⟩
  rw [h]
  refine ⟨fun g a0 x1 x2 x3 => a0 = a ∧ x1 = x ∧ x3 = nI n ∧ cg G g (fun b => b = a) ∧ ∃ i, x2 = nI i ∧ i ≤ n ∧ ∀ j, j < i → gA g a j = x, fun _ _ _ x2 _ => n - x2.toNatClampNeg, ⟨rfl, rfl, rfl, cg.rf, 0, rfl, by omega, fun j hj => absurd hj (by omega)⟩, ?_⟩
  rintro g a0 x1 x2 x3 ⟨rfl, rfl, rfl, p, i, rfl, hi, hj⟩
  have ht : gT g a0 = (2, n) := (p.2.2.1 _).trans h
  refine ⟨fun z => ?_, fun z => ⟨by rw [ht], ?_, ?_⟩⟩
  · have z' : n ≤ i := (n_le (by omega) (by omega)).mp z
    exact k g (fun j hj2 => hj j (by omega)) p
  · have z' : i < n := Nat.lt_of_not_le (fun e => z ((n_le (by omega) (by omega)).mpr e))
    rw [ht]; exact n_in z' (by show n < _; omega)
  · have z' : i < n := Nat.lt_of_not_le (fun e => z ((n_le (by omega) (by omega)).mpr e))
    rw [n_cl (by omega)]
    rintro G2 rfl
    refine ⟨⟨rfl, rfl, rfl, p.tr (cg.sA rfl), i + 1, nI_1 i, by omega, fun j hj2 => ?_⟩, dec_up z' (by omega)⟩
    rw [gA_sA]
    by_cases e : j = i
    · subst e; rw [pk_us]
    · rw [pk_un e]; exact hj j (by omega)
theorem sp_newCache {Pr : Gt → Prop} (r1 : gH G + 3 ≤ xC X) (r2 : gU G + 194 ≤ xS X) (k : ∀ G', CT G' (gH G) → CC G' (gH G) (fun _ => 0) (fun _ => 0) (fun _ => 0) 0 → gH G' = gH G + 3 → gU G' = gU G + 194 → ch G G' (fun _ => False) → Pr G') : wX0_init X (nO G 1 2) (gH G) Pr := by
  refine ⟨by show gH G + 1 + 1 ≤ _; omega, by show gU G + 2 + 96 ≤ _; omega, ?_⟩
  rintro G1 rfl
  have k1 : gT (nA (nO G 1 2) 96) (gH G) = (1, 1) := by
    rw [(nA_o (g := nO G 1 2) (n := 96) (show gH G ≠ gH G + 1 by omega)).1]; exact nO_t
  refine ⟨k1, ?_⟩
  rintro G2 rfl
  refine ⟨by show gH G + 1 + 1 + 1 ≤ _; omega, by show gU G + 2 + 96 + 96 ≤ _; omega, ?_⟩
  rintro G3 rfl
  generalize hA : sR (nA (nO G 1 2) 96) 32 (gH G) (some (gH (nO G 1 2))) = A
  have a0 : gT A (gH G) = (1, 1) := by rw [← hA]; exact k1
  have a1 : gT A (gH G + 1) = (2, 96) := by rw [← hA]; exact nA_t (g := nO G 1 2)
  have a3 : gR A 32 (gH G) = some (gH G + 1) := by rw [← hA, gR_sR, if_pos ⟨rfl, rfl⟩]; rfl
  have a4 : gH A = gH G + 2 := by rw [← hA]; rfl
  have a5 : gU A = gU G + 98 := by rw [← hA]; rfl
  have a6 : ch G A (fun _ => False) := by rw [← hA]; exact cn_sR (ch.nO.tr ch.nA) (Nat.le_refl _)
  have q : ∀ {a : Nat}, a < gH A → eqAt A (nA A 96) a := fun h => nA_o (by omega)
  refine ⟨by rw [(q (by omega)).1]; exact a0, ?_⟩
  rintro G4 rfl
  have b0 : gT (sR (nA A 96) 33 (gH G) (some (gH A))) (gH G) = (1, 1) := by show gT (nA A 96) (gH G) = _; rw [(q (by omega)).1]; exact a0
  have b1 : gT (sR (nA A 96) 33 (gH G) (some (gH A))) (gH G + 1) = (2, 96) := by show gT (nA A 96) (gH G + 1) = _; rw [(q (by omega)).1]; exact a1
  have b2 : gT (sR (nA A 96) 33 (gH G) (some (gH A))) (gH G + 2) = (2, 96) := by show gT (nA A 96) (gH G + 2) = _; rw [← a4]; exact nA_t
  have b3 : gR (sR (nA A 96) 33 (gH G) (some (gH A))) 32 (gH G) = some (gH G + 1) := by rw [gR_sR, if_neg (fun z => absurd z.1 (by decide))]; show gR (nA A 96) 32 (gH G) = _; rw [(q (by omega)).2.2.2.1]; exact a3
  have b4 : gR (sR (nA A 96) 33 (gH G) (some (gH A))) 33 (gH G) = some (gH G + 2) := by rw [gR_sR, if_pos ⟨rfl, rfl⟩, a4]
  refine ⟨b0, gH G + 1, b3, sp_fill b1 (by decide) (fun G5 h5 c5 => k G5 ?_ ?_ ?_ ?_ ?_)⟩
  · exact ⟨(c5.2.2.1 _).trans b0, (c5.2.2.2.1 _ _).trans b3, (c5.2.2.2.1 _ _).trans b4, (c5.2.2.1 _).trans b1, (c5.2.2.1 _).trans b2⟩
  · exact fun p hp => ⟨fun z => absurd (show (0 : Nat) = 1 from z) (by decide), fun _ => h5 p hp⟩
  · rw [c5.1]; show gH A + 1 = _; omega
  · rw [c5.2.1]; show gU A + 96 = _; omega
  · refine ch.tq (cn_sR (a6.tr ch.nA) (Nat.le_refl _)) c5.ch (fun a ha z => ?_)
    omega
theorem sp_newQueue {Pr : Gt → Prop} (hx : xde X < gH G) (hxt : gT G (xde X) = (6, 0)) (r1 : gH G + 2 ≤ xC X) (r2 : gU G + 10 ≤ xS X) (k : ∀ G', gT G' (gH G) = (1, 7) → gR G' 224 (gH G) = some (gH G + 1) → AL X G' (gH G + 1) (xde X) 0 [] → gH G' = gH G + 2 → gU G' = gU G + 10 → ch G G' (fun _ => False) → Pr G') : wX6_init X (nO G 7 7) (gH G) Pr := by
  refine ⟨by show gH G + 1 + 1 ≤ _; omega, by show gU G + 7 + 3 ≤ _; omega, ?_⟩
  rintro G1 rfl
  have l0 : gT (nO (nO G 7 7) 0 3) (gH G + 1) = (1, 0) := nO_t (g := nO G 7 7)
  have k0 : gT (nO (nO G 7 7) 0 3) (gH G) = (1, 7) := by
    rw [(nO_o (g := nO G 7 7) (ci := 0) (n := 3) (show gH G ≠ gH G + 1 by omega)).1]; exact nO_t
  refine ⟨l0, ?_⟩
  rintro G2 rfl
  refine ⟨l0, ?_⟩
  rintro G3 rfl
  refine ⟨k0, ?_⟩
  rintro G4 rfl
  refine ⟨k0, ?_⟩
  rintro G5 rfl
  refine ⟨k0, ?_⟩
  rintro G6 rfl
  refine ⟨k0, ?_⟩
  rintro G7 rfl
  refine ⟨k0, ?_⟩
  rintro G8 rfl
  refine ⟨k0, ?_⟩
  rintro G9 rfl
  refine ⟨k0, ?_⟩
  rintro G10 rfl
  refine k _ k0 ?_ ⟨l0, ?_, ?_, ?_, ?_, by simp, by decide, fun y hy => absurd hy (by simp), Or.inl ⟨rfl, rfl, ?_⟩⟩ rfl rfl ?_
  · show gR (sR _ 224 (gH G) (some (gH G + 1))) 224 (gH G) = _
    rw [gR_sR, if_pos ⟨rfl, rfl⟩]
  · show gH G + 1 < gH G + 1 + 1; omega
  · show xde X < gH G + 1 + 1; omega
  · show gR (sR (sR (sI (nO (nO G 7 7) 0 3) 0 (gH G + 1) 0) 1 (gH G + 1) (some (xde X))) 224 (gH G) (some (gH G + 1))) 1 (gH G + 1) = _
    rw [gR_sR, if_neg (fun z => absurd z.1 (by decide)), gR_sR, if_pos ⟨rfl, rfl⟩]
  · have e : ∀ (g : Gt) (f : Nat) (x : Int32), gI (sI g f (gH G) x) 2 (gH G + 1) = gI g 2 (gH G + 1) := fun g f x => by rw [gI_sI, if_neg (fun z => by have := z.2; omega)]
    rw [e, e, e, e, e]
    show gI (sI (nO (nO G 7 7) 0 3) 0 (gH G + 1) 0) 2 (gH G + 1) = nI 0
    rw [gI_sI, if_neg (fun z => absurd z.1 (by decide))]
    show (if gH G + 1 = gH (nO G 7 7) then (0 : Int32) else _) = _
    rw [if_pos (show gH G + 1 = gH (nO G 7 7) from rfl)]; rfl
  · show gT (nO (nO G 7 7) 0 3) (xde X) = _
    rw [(nO_o (g := nO G 7 7) (ci := 0) (n := 3) (show xde X ≠ gH G + 1 by omega)).1, (nO_o (g := G) (ci := 7) (n := 7) (show xde X ≠ gH G by omega)).1]
    exact hxt
  · refine cn_sI (cn_sI (cn_sI (cn_sI (cn_sI (cn_sJ (cn_sR (cn_sR (cn_sI (ch.nO.tr ch.nO) ?_) ?_) ?_) ?_) ?_) ?_) ?_) ?_) ?_
    all_goals first | exact Nat.le_refl _ | (show gH G ≤ gH G + 1; omega)
theorem sp_newLine {Pr : Gt → Prop} (hx : xde X < gH G) (hxt : gT G (xde X) = (6, 0)) (r1 : gH G + 3 ≤ xC X) (r2 : gU G + 8 ≤ xS X) (k : ∀ G', gT G' (gH G) = (1, 5) → gR G' 160 (gH G) = some (gH G + 1) → gR G' 161 (gH G) = some (gH G + 2) → AL X G' (gH G + 1) (xde X) 0 [] → AL X G' (gH G + 2) (xde X) 0 [] → gH G' = gH G + 3 → gU G' = gU G + 8 → ch G G' (fun _ => False) → Pr G') : wX4_init X (nO G 5 2) (gH G) Pr := by
  refine ⟨by show gH G + 1 + 1 ≤ _; omega, by show gU G + 2 + 3 ≤ _; omega, ?_⟩
  rintro G1 rfl
  have l0 : gT (nO (nO G 5 2) 0 3) (gH G + 1) = (1, 0) := nO_t (g := nO G 5 2)
  have k0 : gT (nO (nO G 5 2) 0 3) (gH G) = (1, 5) := by
    rw [(nO_o (g := nO G 5 2) (ci := 0) (n := 3) (show gH G ≠ gH G + 1 by omega)).1]; exact nO_t
  refine ⟨l0, ?_⟩
  rintro G2 rfl
  refine ⟨l0, ?_⟩
  rintro G3 rfl
  refine ⟨k0, ?_⟩
  rintro G4 rfl
  generalize hA : sR (sR (sI (nO (nO G 5 2) 0 3) 0 (gH (nO G 5 2)) 0) 1 (gH (nO G 5 2)) (some (xde X))) 160 (gH G) (some (gH (nO G 5 2))) = A
  have a0 : gT A (gH G) = (1, 5) := by rw [← hA]; exact k0
  have a1 : gT A (gH G + 1) = (1, 0) := by rw [← hA]; exact l0
  have a2 : gR A 160 (gH G) = some (gH G + 1) := by rw [← hA, gR_sR, if_pos ⟨rfl, rfl⟩]; rfl
  have a3 : gR A 1 (gH G + 1) = some (xde X) := by rw [← hA, gR_sR, if_neg (fun z => absurd z.1 (by decide)), gR_sR, if_pos ⟨rfl, rfl⟩]
  have a4 : gI A 2 (gH G + 1) = 0 := by
    rw [← hA]
    show gI (sI (nO (nO G 5 2) 0 3) 0 (gH G + 1) 0) 2 (gH G + 1) = 0
    rw [gI_sI, if_neg (fun z => absurd z.1 (by decide))]
    show (if gH G + 1 = gH (nO G 5 2) then (0 : Int32) else _) = _
    rw [if_pos (show gH G + 1 = gH (nO G 5 2) from rfl)]
  have a5 : gT A (xde X) = (6, 0) := by
    rw [← hA]
    show gT (nO (nO G 5 2) 0 3) (xde X) = _
    rw [(nO_o (g := nO G 5 2) (ci := 0) (n := 3) (show xde X ≠ gH G + 1 by omega)).1, (nO_o (g := G) (ci := 5) (n := 2) (show xde X ≠ gH G by omega)).1]
    exact hxt
  have a6 : gH A = gH G + 2 := by rw [← hA]; rfl
  have a7 : gU A = gU G + 5 := by rw [← hA]; rfl
  have a8 : ch G A (fun _ => False) := by
    rw [← hA]
    exact cn_sR (cn_sR (cn_sI (ch.nO.tr ch.nO) (by show gH G ≤ gH G + 1; omega)) (by show gH G ≤ gH G + 1; omega)) (Nat.le_refl _)
  refine ⟨by omega, by omega, ?_⟩
  rintro G5 rfl
  have q : ∀ {a : Nat}, a < gH A → eqAt A (nO A 0 3) a := fun h => nO_o (by omega)
  have m0 : gT (nO A 0 3) (gH G + 2) = (1, 0) := by rw [← a6]; exact nO_t
  rw [a6]
  refine ⟨m0, ?_⟩
  rintro G6 rfl
  refine ⟨m0, ?_⟩
  rintro G7 rfl
  have n0 : gT (nO A 0 3) (gH G) = (1, 5) := by rw [(q (by omega)).1]; exact a0
  refine ⟨n0, ?_⟩
  rintro G8 rfl
  refine k _ n0 ?_ ?_ ⟨?_, ?_, ?_, ?_, ?_, by simp, by decide, fun y hy => absurd hy (by simp), Or.inl ⟨rfl, rfl, ?_⟩⟩ ⟨m0, ?_, ?_, ?_, ?_, by simp, by decide, fun y hy => absurd hy (by simp), Or.inl ⟨rfl, rfl, ?_⟩⟩ ?_ ?_ ?_
  · rw [gR_sR, if_neg (fun z => absurd z.1 (by decide)), gR_sR, if_neg (fun z => absurd z.1 (by decide))]
    show gR (nO A 0 3) 160 (gH G) = _
    rw [(q (by omega)).2.2.2.1]; exact a2
  · rw [gR_sR, if_pos ⟨rfl, rfl⟩]
  · show gT (nO A 0 3) (gH G + 1) = _; rw [(q (by omega)).1]; exact a1
  · show gH G + 1 < gH A + 1; omega
  · show xde X < gH A + 1; omega
  · rw [gR_sR, if_neg (fun z => absurd z.1 (by decide)), gR_sR, if_neg (fun z => by have := z.2; omega)]
    show gR (nO A 0 3) 1 (gH G + 1) = _
    rw [(q (by omega)).2.2.2.1]; exact a3
  · show gI (sI (nO A 0 3) 0 (gH G + 2) 0) 2 (gH G + 1) = nI 0
    rw [gI_sI, if_neg (fun z => absurd z.1 (by decide)), (q (by omega)).2.1]; exact a4
  · show gT (nO A 0 3) (xde X) = _; rw [(q (by omega)).1]; exact a5
  · show gH G + 2 < gH A + 1; omega
  · show xde X < gH A + 1; omega
  · rw [gR_sR, if_neg (fun z => absurd z.1 (by decide)), gR_sR, if_pos ⟨rfl, rfl⟩]
  · show gI (sI (nO A 0 3) 0 (gH G + 2) 0) 2 (gH G + 2) = nI 0
    rw [gI_sI, if_neg (fun z => absurd z.1 (by decide))]
    show (if gH G + 2 = gH A then (0 : Int32) else _) = _
    rw [if_pos a6.symm]; rfl
  · show gT (nO A 0 3) (xde X) = _; rw [(q (by omega)).1]; exact a5
  · show gH A + 1 = _; omega
  · show gU A + 3 = _; omega
  · exact cn_sR (cn_sR (cn_sI (a8.tr ch.nO) (by omega)) (by omega)) (Nat.le_refl _)
end NEWS
