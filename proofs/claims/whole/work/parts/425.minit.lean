/-! ===== the reference: its constructor; its picture read off the heap ===== -/
def lc (m i : Nat) : Nat := if i = 0 then m + 1 else if i = 1 then m + 2 else if i = 9 then m + 3 else if i = 11 then m + 4 else if i = 12 then m + 5 else if i = 16 then m + 6 else m + 7
def v0 (q j : Nat) : Int32 := if j = 5 then 1 else if j = 3 then 1 else if j = 2 then 30 else if j = 1 then 50 else if 220 ≤ j ∧ j < 220 + q then 65535 else if 224 ≤ j ∧ j < 224 + q then 5 else 0
theorem v0_0 : upd (upd (upd (upd (fun _ => 0) 1 50) 2 30) 3 1) 5 1 = v0 0 := by
  funext j
  unfold v0
  by_cases e5 : j = 5
  · subst e5; rw [pk_us]; rfl
  rw [pk_un e5, if_neg e5]
  by_cases e3 : j = 3
  · subst e3; rw [pk_us]; rfl
  rw [pk_un e3, if_neg e3]
  by_cases e2 : j = 2
  · subst e2; rw [pk_us]; rfl
  rw [pk_un e2, if_neg e2]
  by_cases e1 : j = 1
  · subst e1; rw [pk_us]; rfl
  rw [pk_un e1, if_neg e1, if_neg (by omega), if_neg (by omega)]
theorem v0_s {q : Nat} (hq : q < 3) : upd (upd (v0 q) (220 + q) 65535) (224 + q) 5 = v0 (q + 1) := by
  funext j
  by_cases e4 : j = 224 + q
  · rw [e4, pk_us]
    unfold v0
    rw [if_neg (by omega), if_neg (by omega), if_neg (by omega), if_neg (by omega), if_neg (by omega), if_pos (by omega)]
  rw [pk_un e4]
  by_cases e0 : j = 220 + q
  · rw [e0, pk_us]
    unfold v0
    rw [if_neg (by omega), if_neg (by omega), if_neg (by omega), if_neg (by omega), if_pos (by omega)]
  rw [pk_un e0]
  unfold v0
  have p1 : (220 ≤ j ∧ j < 220 + (q + 1)) ↔ (220 ≤ j ∧ j < 220 + q) := by omega
  have p2 : (224 ≤ j ∧ j < 224 + (q + 1)) ↔ (224 ≤ j ∧ j < 224 + q) := by omega
  simp only [p1, p2]
theorem v0_z {j : Nat} (h : 16 ≤ j) (h2 : j < 220 ∨ 227 ≤ j) : v0 3 j = nI 0 := by
  unfold v0
  rw [if_neg (by omega), if_neg (by omega), if_neg (by omega), if_neg (by omega), if_neg (by omega), if_neg (by omega)]
  rfl
theorem v0_MV : MV (v0 3) S0 := by
  refine ⟨?_, ?_, fun d r h1 h2 h3 => ?_, fun d h1 h2 => ?_, fun i hi => ?_, fun p hp => ?_, fun k hk => absurd hk (by show ¬ k < 0; omega)⟩
  · show ∀ j, j < 16 → j ≠ 9 → v0 3 j = nI (n0 j)
    decide +kernel
  · show v0 3 9 = nI 0
    decide +kernel
  · have : plc d r < 96 := plc_lt ⟨h1, h2⟩ h3
    exact ⟨v0_z (by omega) (by omega), v0_z (by omega) (by omega)⟩
  · refine ⟨?_, ?_, v0_z (by omega) (by omega), fun k hk => absurd hk (by show ¬ k < 0; omega)⟩
    · rcases (show d = 1 ∨ d = 2 ∨ d = 3 by omega) with e | e | e <;> subst e <;> show v0 3 _ = nI 65535 <;> decide +kernel
    · rcases (show d = 1 ∨ d = 2 ∨ d = 3 by omega) with e | e | e <;> subst e <;> show v0 3 _ = nI 5 <;> decide +kernel
  · exact ⟨fun k h1 h2 => v0_z (by omega) (by omega), v0_z (by omega) (by omega), fun k hk => v0_z (by omega) (by omega)⟩
  · exact ⟨v0_z (by omega) (by omega), v0_z (by omega) (by omega), v0_z (by omega) (by omega)⟩
/-- the reference's state, read off the heap -/
def rd (G : Gt) (m : Nat) (ℓ : Nat → Nat) : Tt := (fun i => gA G (ℓ i), fun f => gI G f m, gJ G 355 m)
theorem mk_rd {G : Gt} {m : Nat} {ℓ : Nat → Nat} : mk G m ℓ (rd G m ℓ) = G := by
  refine Prod.ext rfl (Prod.ext rfl (Prod.ext ?_ (Prod.ext ?_ (Prod.ext rfl (Prod.ext ?_ rfl)))))
  · funext f a
    show (if a = m then gI G f m else gI G f a) = gI G f a
    by_cases e : a = m
    · rw [if_pos e, e]
    · rw [if_neg e]
  · funext f a
    show (if f = 355 ∧ a = m then gJ G 355 m else gJ G f a) = gJ G f a
    by_cases e : f = 355 ∧ a = m
    · rw [if_pos e, e.1, e.2]
    · rw [if_neg e]
  · funext a
    show (if a = ℓ 0 then gA G (ℓ 0) else if a = ℓ 1 then gA G (ℓ 1) else if a = ℓ 9 then gA G (ℓ 9) else if a = ℓ 11 then gA G (ℓ 11) else if a = ℓ 12 then gA G (ℓ 12) else if a = ℓ 16 then gA G (ℓ 16) else if a = ℓ 17 then gA G (ℓ 17) else gA G a) = gA G a
    by_cases e0 : a = ℓ 0
    · rw [if_pos e0, e0]
    rw [if_neg e0]
    by_cases e1 : a = ℓ 1
    · rw [if_pos e1, e1]
    rw [if_neg e1]
    by_cases e9 : a = ℓ 9
    · rw [if_pos e9, e9]
    rw [if_neg e9]
    by_cases e11 : a = ℓ 11
    · rw [if_pos e11, e11]
    rw [if_neg e11]
    by_cases e12 : a = ℓ 12
    · rw [if_pos e12, e12]
    rw [if_neg e12]
    by_cases e16 : a = ℓ 16
    · rw [if_pos e16, e16]
    rw [if_neg e16]
    by_cases e17 : a = ℓ 17
    · rw [if_pos e17, e17]
    rw [if_neg e17]
section MINIT
variable {X : Xt} {G : Gt}
theorem sm_init {Pr : Gt → Prop} (r1 : gH G + 8 ≤ xC X) (r2 : gU G + 17939 ≤ xS X)
    (k : ∀ G', ML G' (gH G) (lc (gH G)) → MV (gA G' (gH G + 1)) S0 → MH (rd G' (gH G) (lc (gH G))) H0 → gH G' = gH G + 8 → gU G' = gU G + 17939 → ch G G' (fun _ => False) → Pr G') : wX10_init X (nO G 11 19) (gH G) Pr := by
  have n1 : gH (nO G 11 19) = gH G + 1 := rfl
  have n2 : gU (nO G 11 19) = gU G + 19 := rfl
  have n3 : gT (nO G 11 19) (gH G) = (1, 11) := nO_t
  have n4 : ch G (nO G 11 19) (fun _ => False) := ch.nO
  have n5 : ∀ f, gI (nO G 11 19) f (gH G) = 0 := fun f => if_pos rfl
  revert n1 n2 n3 n4 n5
  generalize nO G 11 19 = J
  intro n1 n2 n3 n4 n5
  refine ⟨by omega, by omega, ?_⟩
  rintro G1 rfl
  refine ⟨((nA_o (by omega)).1).trans n3, ?_⟩
  intro A1 e1
  obtain ⟨h1, u1', t1, z1, T1, Z1, R1, I1, C1⟩ := nc_a e1 (by omega)
  have k1 : gT A1 (gH G) = (1, 11) := (T1 _ (by omega)).trans n3
  refine ⟨by omega, by omega, ?_⟩
  rintro G1 rfl
  refine ⟨((nA_o (by omega)).1).trans k1, ?_⟩
  intro A2 e2
  obtain ⟨h2, u2, t2, z2, T2, Z2, R2, I2, C2⟩ := nc_a e2 (by omega)
  have k2 : gT A2 (gH G) = (1, 11) := (T2 _ (by omega)).trans k1
  refine ⟨by omega, by omega, ?_⟩
  rintro G1 rfl
  refine ⟨((nA_o (by omega)).1).trans k2, ?_⟩
  intro A3 e3
  obtain ⟨h3, u3, t3, z3, T3, Z3, R3, I3, C3⟩ := nc_a e3 (by omega)
  have k3 : gT A3 (gH G) = (1, 11) := (T3 _ (by omega)).trans k2
  refine ⟨by omega, by omega, ?_⟩
  rintro G1 rfl
  refine ⟨((nA_o (by omega)).1).trans k3, ?_⟩
  intro A4 e4
  obtain ⟨h4, u4, t4, z4, T4, Z4, R4, I4, C4⟩ := nc_a e4 (by omega)
  have k4 : gT A4 (gH G) = (1, 11) := (T4 _ (by omega)).trans k3
  refine ⟨by omega, by omega, ?_⟩
  rintro G1 rfl
  refine ⟨((nA_o (by omega)).1).trans k4, ?_⟩
  intro A5 e5
  obtain ⟨h5, u5, t5, z5, T5, Z5, R5, I5, C5⟩ := nc_a e5 (by omega)
  have k5 : gT A5 (gH G) = (1, 11) := (T5 _ (by omega)).trans k4
  refine ⟨k5, ?_⟩
  intro B eB
  obtain ⟨hB, uB, TB, EB, RB, CB, IB⟩ := nc_i eB
  have kB : gT B (gH G) = (1, 11) := (TB _).trans k5
  refine ⟨by omega, by omega, ?_⟩
  rintro G1 rfl
  refine ⟨((nA_o (by omega)).1).trans kB, ?_⟩
  intro A6 e6
  obtain ⟨h6, u6, t6, z6, T6, Z6, R6, I6, C6⟩ := nc_a e6 (by omega)
  have k6 : gT A6 (gH G) = (1, 11) := (T6 _ (by omega)).trans kB
  refine ⟨by omega, by omega, ?_⟩
  rintro G1 rfl
  refine ⟨((nA_o (by omega)).1).trans k6, ?_⟩
  intro A7 e7
  obtain ⟨h7, u7, t7, z7, T7, Z7, R7, I7, C7⟩ := nc_a e7 (by omega)
  have k7 : gT A7 (gH G) = (1, 11) := (T7 _ (by omega)).trans k6
  have c7 : ch G A7 (fun _ => False) := C7 G (C6 G (CB G (C5 G (C4 G (C3 G (C2 G (C1 G n4 (Nat.le_refl _)) (Nat.le_refl _)) (Nat.le_refl _)) (Nat.le_refl _)) (Nat.le_refl _)) (Nat.le_refl _)) (Nat.le_refl _)) (Nat.le_refl _)
  have a1 : gH J = gH G + 1 := n1
  have a2 : gH A1 = gH G + 2 := by omega
  have a3 : gH A2 = gH G + 3 := by omega
  have a4 : gH A3 = gH G + 4 := by omega
  have a5 : gH A4 = gH G + 5 := by omega
  have a6 : gH B = gH G + 6 := by omega
  have a7 : gH A6 = gH G + 7 := by omega
  have a8 : gH A7 = gH G + 8 := by omega
  have aU : gU A7 = gU G + 17939 := by omega
  rw [a1] at t1 z1 R1; rw [a2] at t2 z2 R2; rw [a3] at t3 z3 R3; rw [a4] at t4 z4 R4; rw [a5] at t5 z5 R5; rw [a6] at t6 z6 R6; rw [a7] at t7 z7 R7
  -- kinds, references, numbers, rows
  have tt1 : gT A7 (gH G + 1) = (2, 8900) := by rw [T7 _ (by omega), T6 _ (by omega), TB, T5 _ (by omega), T4 _ (by omega), T3 _ (by omega), T2 _ (by omega)]; exact t1
  have tt2 : gT A7 (gH G + 2) = (2, 8900) := by rw [T7 _ (by omega), T6 _ (by omega), TB, T5 _ (by omega), T4 _ (by omega), T3 _ (by omega)]; exact t2
  have tt3 : gT A7 (gH G + 3) = (2, 42) := by rw [T7 _ (by omega), T6 _ (by omega), TB, T5 _ (by omega), T4 _ (by omega)]; exact t3
  have tt4 : gT A7 (gH G + 4) = (2, 16) := by rw [T7 _ (by omega), T6 _ (by omega), TB, T5 _ (by omega)]; exact t4
  have tt5 : gT A7 (gH G + 5) = (2, 42) := by rw [T7 _ (by omega), T6 _ (by omega), TB]; exact t5
  have tt6 : gT A7 (gH G + 6) = (2, 10) := by rw [T7 _ (by omega)]; exact t6
  have rr : ∀ f, gR A7 f (gH G) = if f = 369 then some (gH G + 7) else if f = 368 then some (gH G + 6) else if f = 364 then some (gH G + 5) else if f = 363 then some (gH G + 4) else if f = 361 then some (gH G + 3) else if f = 353 then some (gH G + 2) else if f = 352 then some (gH G + 1) else gR J f (gH G) := fun f => by
    rw [R7, R6, RB, R5, R4, R3, R2, R1]
  have ii : ∀ f, gI A7 f (gH G) = if f = 367 then 65535 else 0 := fun f => by
    rw [I7, I6, IB, I5, I4, I3, I2, I1, n5]
  have zz1 : gA A7 (gH G + 1) = fun _ => 0 := by
    rw [Z7 _ (by omega), Z6 _ (by omega), (EB _ (by omega)).2.2.2.2.1, Z5 _ (by omega), Z4 _ (by omega), Z3 _ (by omega), Z2 _ (by omega)]; exact z1
  have zz6 : gA A7 (gH G + 6) = fun _ => 0 := by rw [Z7 _ (by omega)]; exact z6
  have r352 : gR A7 352 (gH G) = some (gH G + 1) := by rw [rr]; rfl
  have ml : ∀ f, ML (sA A7 (gH G + 1) f) (gH G) (lc (gH G)) := fun f => by
    refine ⟨k7, ⟨r352, ?_, ?_, ?_, ?_, ?_, ?_⟩, ⟨tt1, tt2, tt3, tt4, tt5, tt6, t7⟩, ?_⟩
    · show gR A7 353 (gH G) = _; rw [rr]; rfl
    · show gR A7 361 (gH G) = _; rw [rr]; rfl
    · show gR A7 363 (gH G) = _; rw [rr]; rfl
    · show gR A7 364 (gH G) = _; rw [rr]; rfl
    · show gR A7 368 (gH G) = _; rw [rr]; rfl
    · show gR A7 369 (gH G) = _; rw [rr]; rfl
    · intro i hi j hj e
      unfold mls at hi hj
      simp only [List.mem_cons, List.not_mem_nil, or_false] at hi hj
      rcases hi with rfl | rfl | rfl | rfl | rfl | rfl | rfl <;> rcases hj with rfl | rfl | rfl | rfl | rfl | rfl | rfl <;> simp [lc] at e ⊢ <;> omega
  have mh : ∀ f, MH (rd (sA A7 (gH G + 1) f) (gH G) (lc (gH G))) H0 := fun f => by
    refine ⟨?_, ?_, ?_, ?_, fun j hj => ?_, fun j hj => ?_⟩
    · show gI A7 365 (gH G) = _; rw [ii]; rfl
    · show gI A7 366 (gH G) = _; rw [ii]; rfl
    · show gI A7 367 (gH G) = _; rw [ii]; rfl
    · show gI A7 370 (gH G) = _; rw [ii]; rfl
    · show (if gH G + 6 = gH G + 1 then f else gA A7 (gH G + 6)) j = _
      rw [if_neg (by omega), zz6]; rfl
    · show (if gH G + 7 = gH G + 1 then f else gA A7 (gH G + 7)) j = _
      rw [if_neg (by omega), z7]; rfl
  have wr : ∀ f j x, sA (sA A7 (gH G + 1) f) (gH G + 1) (upd (gA (sA A7 (gH G + 1) f) (gH G + 1)) j x) = sA A7 (gH G + 1) (upd f j x) := fun f j x => by rw [gA_sAs, sA_sA]
  have i8 : ∀ j, j < 8900 → vp_in (nI j) (gT A7 (gH G + 1)).2 := fun j hj => by rw [tt1]; exact n_in hj (by decide)
  have w2 : (gT A7 (gH G + 1)).1 = 2 := by rw [tt1]
  refine ⟨k7, gH G + 1, r352, w2, i8 1 (by decide), ?_⟩
  rw [zz1]
  rintro G1 rfl
  refine ⟨k7, gH G + 1, r352, w2, i8 2 (by decide), ?_⟩
  rw [wr]
  rintro G1 rfl
  refine ⟨k7, gH G + 1, r352, w2, i8 3 (by decide), ?_⟩
  rw [wr]
  rintro G1 rfl
  refine ⟨k7, gH G + 1, r352, w2, i8 5 (by decide), ?_⟩
  rw [wr, show upd (upd (upd (upd (fun _ => (0 : Int32)) (1 : Int32).toNatClampNeg 50) (2 : Int32).toNatClampNeg 30) (3 : Int32).toNatClampNeg 1) (5 : Int32).toNatClampNeg 1 = v0 0 from v0_0]
  rintro G1 rfl
  refine ⟨fun K a0 x => a0 = gH G ∧ ∃ q, x = nI q ∧ q ≤ 3 ∧ K = sA A7 (gH G + 1) (v0 q), fun _ _ x => 3 - x.toNatClampNeg, ⟨rfl, 0, rfl, by decide, rfl⟩, ?_⟩
  rintro K a0 x ⟨ea, q, rfl, hq, rfl⟩
  rw [ea]
  refine ⟨fun q1 => ?_, fun q1 => ?_⟩
  · have e : q = 3 := by have := (n_le (a := 3) (by decide) (by omega)).mp q1; omega
    subst e
    refine k _ (ml _) ?_ (mh _) a8 aU (cn_sA c7 (by omega))
    rw [gA_sAs]; exact v0_MV
  · have hq3 : q < 3 := Nat.lt_of_not_le (fun e => q1 ((n_le (a := 3) (by decide) (by omega)).mpr e))
    rw [show (220 : Int32) + nI q = nI (220 + q) from n_add (a := 220), show (224 : Int32) + nI q = nI (224 + q) from n_add (a := 224)]
    refine ⟨k7, gH G + 1, r352, w2, i8 _ (by omega), ?_⟩
    rw [n_cl (by omega), n_cl (by omega), wr]
    rintro G1 rfl
    refine ⟨k7, gH G + 1, r352, w2, i8 _ (by omega), ?_⟩
    rw [wr, v0_s hq3]
    rintro G1 rfl
    exact ⟨⟨rfl, q + 1, nI_1 q, by omega, rfl⟩, dec_up (L := 3) hq3 (by decide)⟩
end MINIT
