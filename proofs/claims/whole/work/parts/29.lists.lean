/-! ===== changes with new cells; lists ===== -/
/-- outside P nothing old changes; kinds stay, and references but for a list's row and the trial -/
def ch (G G' : Gt) (P : Nat → Prop) : Prop := gH G ≤ gH G' ∧ (∀ a, a < gH G → gT G' a = gT G a) ∧ (∀ a, a < gH G → ¬ P a → eqAt G G' a) ∧ (∀ f a, a < gH G → f ≠ 1 → f ≠ 322 → gR G' f a = gR G f a) ∧ ∀ a, a < gH G → (gT G a).1 = 4 → gB G' a = gB G a
theorem ch.rf {G : Gt} {P : Nat → Prop} : ch G G P := ⟨Nat.le_refl _, fun _ _ => rfl, fun _ _ _ => eqAt.rf, fun _ _ _ _ _ => rfl, fun _ _ _ => rfl⟩
theorem ch.tq {G G' G'' : Gt} {P P' : Nat → Prop} (h1 : ch G G' P) (h2 : ch G' G'' P') (hp : ∀ a, a < gH G → P' a → P a) : ch G G'' P := by
  obtain ⟨a1, a2, a3, a4, a5⟩ := h1
  obtain ⟨b1, b2, b3, b4, b5⟩ := h2
  have q : ∀ {a : Nat}, a < gH G → a < gH G' := fun ha => Nat.lt_of_lt_of_le ha a1
  exact ⟨Nat.le_trans a1 b1, fun a ha => (b2 a (q ha)).trans (a2 a ha), fun a ha hn => (a3 a ha hn).tr (b3 a (q ha) (fun z => hn (hp a ha z))), fun f a ha hf hf2 => (b4 f a (q ha) hf hf2).trans (a4 f a ha hf hf2), fun a ha ht => (b5 a (q ha) (by rw [a2 a ha]; exact ht)).trans (a5 a ha ht)⟩
theorem ch.tr {G G' G'' : Gt} {P : Nat → Prop} (h1 : ch G G' P) (h2 : ch G' G'' P) : ch G G'' P := h1.tq h2 (fun _ _ z => z)
theorem ch.mono {G G' : Gt} {P P' : Nat → Prop} (h : ch G G' P) (hp : ∀ a, a < gH G → P a → P' a) : ch G G' P' := ⟨h.1, h.2.1, fun a ha hn => h.2.2.1 a ha (fun z => hn (hp a ha z)), h.2.2.2⟩
theorem cg.ch {G G' : Gt} {P : Nat → Prop} (h : cg G G' P) : ch G G' P := ⟨Nat.le_of_eq h.1.symm, fun a _ => h.2.2.1 a, fun a _ hp => h.2.2.2.2.2 a hp, fun f a _ _ _ => h.2.2.2.1 f a, fun a _ _ => h.2.2.2.2.1 a⟩
theorem ch.sI {G : Gt} {f a : Nat} {x : Int32} {P : Nat → Prop} (h : P a) : ch G (sI G f a x) P := (cg.sI h).ch
theorem ch.sJ {G : Gt} {f a : Nat} {x : Int64} {P : Nat → Prop} (h : P a) : ch G (sJ G f a x) P := (cg.sJ h).ch
theorem ch.sA {G : Gt} {a : Nat} {g : Nat → Int32} {P : Nat → Prop} (h : P a) : ch G (sA G a g) P := (cg.sA h).ch
theorem ch.sR {G : Gt} {f a : Nat} {x : Option Nat} {P : Nat → Prop} (h : P a) (hf : f = 1 ∨ f = 322) : ch G (sR G f a x) P := ⟨Nat.le_refl _, fun _ _ => rfl, fun b _ hb => eqAt.sR (fun e => hb (by rw [e]; exact h)), fun f' b _ h1 h2 => up2_ne (fun z => hf.elim (fun e => h1 (z.1.trans e)) (fun e => h2 (z.1.trans e))), fun _ _ _ => rfl⟩
/-- a reference written in a new object -/
theorem cn_sR {G G' : Gt} {f a : Nat} {x : Option Nat} {P : Nat → Prop} (h : ch G G' P) (ha : gH G ≤ a) : ch G (sR G' f a x) P := ⟨h.1, h.2.1, fun b hb hn => (h.2.2.1 b hb hn).tr (eqAt.sR (by omega)), fun f' b hb h1 h2 => (up2_ne (fun z => by have := z.2; omega)).trans (h.2.2.2.1 f' b hb h1 h2), h.2.2.2.2⟩
theorem cn_sI {G G' : Gt} {f a : Nat} {x : Int32} {P : Nat → Prop} (h : ch G G' P) (ha : gH G ≤ a) : ch G (sI G' f a x) P := h.tq (P' := fun b => b = a) (ch.sI rfl) (fun b hb e => absurd e (by omega))
theorem cn_sJ {G G' : Gt} {f a : Nat} {x : Int64} {P : Nat → Prop} (h : ch G G' P) (ha : gH G ≤ a) : ch G (sJ G' f a x) P := h.tq (P' := fun b => b = a) (ch.sJ rfl) (fun b hb e => absurd e (by omega))
theorem cn_sA {G G' : Gt} {a : Nat} {g : Nat → Int32} {P : Nat → Prop} (h : ch G G' P) (ha : gH G ≤ a) : ch G (sA G' a g) P := h.tq (P' := fun b => b = a) (ch.sA rfl) (fun b hb e => absurd e (by omega))
theorem cn_sB {G G' : Gt} {a : Nat} {g : Nat → Option Nat} {P : Nat → Prop} (h : ch G G' P) (ha : gH G ≤ a) : ch G (sB G' a g) P := ⟨h.1, h.2.1, fun b hb hn => (h.2.2.1 b hb hn).tr (eqAt.sB (by omega)), h.2.2.2.1, fun b hb ht => (va_up_ne _ _ (by omega)).trans (h.2.2.2.2 b hb ht)⟩
theorem ch.sB {G : Gt} {a : Nat} {g : Nat → Option Nat} {P : Nat → Prop} (h : P a) (ht : (gT G a).1 ≠ 4) : ch G (sB G a g) P := ⟨Nat.le_refl _, fun _ _ => rfl, fun b _ hb => eqAt.sB (fun e => hb (by rw [e]; exact h)), fun _ _ _ _ _ => rfl, fun b _ hb => va_up_ne _ _ (fun e => ht (by rw [← e]; exact hb))⟩
theorem ch.nO {G : Gt} {c n : Nat} {P : Nat → Prop} : ch G (nO G c n) P := ⟨Nat.le_succ _, fun a ha => va_up_ne _ _ (Nat.ne_of_lt ha), fun a ha _ => eqAt.nO (Nat.ne_of_lt ha), fun f a ha _ _ => if_neg (Nat.ne_of_lt ha), fun _ _ _ => rfl⟩
theorem ch.nA {G : Gt} {n : Nat} {P : Nat → Prop} : ch G (nA G n) P := ⟨Nat.le_succ _, fun a ha => va_up_ne _ _ (Nat.ne_of_lt ha), fun a ha _ => eqAt.nA (Nat.ne_of_lt ha), fun _ _ _ _ _ => rfl, fun _ _ _ => rfl⟩
theorem ch.nB {G : Gt} {k n : Nat} {P : Nat → Prop} : ch G (nB G k n) P := ⟨Nat.le_succ _, fun a ha => va_up_ne _ _ (Nat.ne_of_lt ha), fun a ha _ => eqAt.nB (Nat.ne_of_lt ha), fun _ _ _ _ _ => rfl, fun a ha _ => va_up_ne _ _ (Nat.ne_of_lt ha)⟩
theorem ch.nX {G : Gt} {h u : Nat} {P : Nat → Prop} (hh : gH G ≤ h) : ch G (nX G h u) P := ⟨hh, fun _ _ => rfl, fun _ _ _ => eqAt.nX, fun _ _ _ _ _ => rfl, fun _ _ _ => rfl⟩
/-- the ArrayList at a, its row at b of c places, holds l -/
def AL (X : Xt) (G : Gt) (a b c : Nat) (l : List Nat) : Prop := gT G a = (1, 0) ∧ a < gH G ∧ b < gH G ∧ gR G 1 a = some b ∧ gI G 2 a = nI l.length ∧ l.length ≤ c ∧ c < 5000 ∧ (∀ y ∈ l, y < gH G ∧ (gT G y).1 = 1 ∧ (gT G y).2 < 12) ∧ ((c = 0 ∧ b = xde X ∧ gT G b = (6, 0)) ∨ (10 ≤ c ∧ b ≠ xde X ∧ gT G b = (3, c) ∧ ∀ k, k < l.length → gB G b k = some (l.getD k 0)))
theorem AL.keep {X : Xt} {G G' : Gt} {a b c : Nat} {l : List Nat} {P : Nat → Prop} (h : AL X G a b c l) (h1 : ch G G' P) (ha : ¬ P a) (hb : b ≠ xde X → ¬ P b) : AL X G' a b c l := by
  obtain ⟨l1, l2, l3, l4, l5, l6, l7, l8, l9⟩ := h
  obtain ⟨c1, c2, c3, _, _⟩ := h1
  have e := c3 a l2 ha
  refine ⟨e.1.trans l1, Nat.lt_of_lt_of_le l2 c1, Nat.lt_of_lt_of_le l3 c1, (e.2.2.2.1 _).trans l4, (e.2.1 _).trans l5, l6, l7, fun y hy => ?_, ?_⟩
  · obtain ⟨q1, q2, q3⟩ := l8 y hy
    rw [c2 y q1]
    exact ⟨Nat.lt_of_lt_of_le q1 c1, q2, q3⟩
  · rcases l9 with ⟨q1, q2, q3⟩ | ⟨q1, q2, q3, q4⟩
    · exact Or.inl ⟨q1, q2, (c2 b l3).trans q3⟩
    · have e2 := c3 b l3 (hb q2)
      refine Or.inr ⟨q1, q2, e2.1.trans q3, fun k hk => ?_⟩
      rw [e2.2.2.2.2.2.1]
      exact q4 k hk
theorem gdm {l : List Nat} {k : Nat} (h : k < l.length) : l.getD k 0 ∈ l := by
  have e : l.getD k 0 = l[k] := by simp [List.getD, h]
  rw [e]
  exact List.getElem_mem h
section LSS
variable {X : Xt} {G : Gt} {a b c : Nat} {l : List Nat}
theorem AL.ne (h : AL X G a b c l) : a ≠ b := fun e => by
  obtain ⟨l1, _, _, _, _, _, _, _, l9⟩ := h
  rw [← e, l1] at l9
  rcases l9 with ⟨_, _, q3⟩ | ⟨_, _, q3, _⟩ <;> cases q3
theorem sp_size {Pr : Int32 → Gt → Prop} (h : AL X G a b c l) (hp : Pr (nI l.length) G) : wJx4a65c_size_8abf5 X G a Pr := ⟨h.1, by rw [h.2.2.2.2.1]; exact hp⟩
theorem sp_isEmpty {Pr : Int32 → Gt → Prop} (h : AL X G a b c l) (h1 : l = [] → Pr 1 G) (h0 : l ≠ [] → Pr 0 G) : wJx4a65c_isEmpty_aae02 X G a Pr := by
  have hl : l.length < 2 ^ 31 := by have := h.2.2.2.2.2.1; have := h.2.2.2.2.2.2.1; omega
  refine ⟨h.1, fun z => h0 (fun e => z ?_), fun z => h1 ?_⟩
  · rw [h.2.2.2.2.1, e]; rfl
  · rw [h.2.2.2.2.1] at z
    have := n_inj (b := 0) hl (by decide) z
    exact List.length_eq_zero_iff.mp this
theorem sp_checkIndex {k n : Nat} {Pr : Int32 → Gt → Prop} {Px : String → Gt → Prop} (hk : k < n) (hn : n < 2 ^ 31) (hp : Pr (nI k) G) : wJ15_checkIndex_7cf53 X G (nI k) (nI n) Pr Px :=
  ⟨fun z => absurd z (n_neg (by omega)), fun _ => ⟨fun _ => hp, fun z => absurd ((n_lt (by omega) hn).mpr hk) z⟩⟩
theorem sp_get {k : Nat} {Pr : Option Nat → Gt → Prop} {Px : String → Gt → Prop} (h : AL X G a b c l) (hk : k < l.length) (hp : Pr (some (l.getD k 0)) G) : wJx4a65c_get_915e3 X G a (nI k) Pr Px := by
  obtain ⟨l1, l2, l3, l4, l5, l6, l7, l8, l9⟩ := id h
  refine ⟨l1, ?_⟩
  rw [l5]
  refine sp_checkIndex hk (by omega) ⟨l1, l1, b, l4, ?_⟩
  rcases l9 with ⟨q1, _⟩ | ⟨q1, q2, q3, q4⟩
  · omega
  · rw [q3]
    refine ⟨rfl, n_in (show k < c by omega) (by omega), ?_⟩
    rw [n_cl (by omega), q4 k hk]
    exact hp
theorem AL.add1 {y : Nat} {g : Nat → Option Nat} {G' : Gt} (h1 : gT G' a = (1, 0)) (h2 : a < gH G') (h3 : b < gH G') (h4 : gR G' 1 a = some b) (h5 : gI G' 2 a = nI (l.length + 1)) (h6 : l.length + 1 ≤ c) (h7 : c < 5000) (h8 : ∀ x ∈ l, x < gH G' ∧ (gT G' x).1 = 1 ∧ (gT G' x).2 < 12) (hy : y < gH G' ∧ (gT G' y).1 = 1 ∧ (gT G' y).2 < 12) (hc : 10 ≤ c) (hb : b ≠ xde X) (ht : gT G' b = (3, c)) (hg : gB G' b = va_up g l.length (some y)) (hl : ∀ k, k < l.length → g k = some (l.getD k 0)) : AL X G' a b c (l ++ [y]) := by
  refine ⟨h1, h2, h3, h4, by simpa using h5, by simpa using h6, h7, fun x hx => ?_, Or.inr ⟨hc, hb, ht, fun k hk => ?_⟩⟩
  · rcases List.mem_append.mp hx with z | z
    · exact h8 x z
    · rw [List.mem_singleton.mp z]; exact hy
  · rw [hg]
    have hk' : k < l.length + 1 := by simpa using hk
    by_cases e : k = l.length
    · subst e; rw [gd_eq]; exact va_up_self _ _ _
    · rw [gd_lt (by omega), ← hl k (by omega)]; exact va_up_ne _ _ e
theorem sp_max {G : Gt} {p q : Nat} {Pr : Int32 → Gt → Prop} (hp : p < 2 ^ 31) (hq : q < 2 ^ 31) (h : Pr (nI (max p q)) G) : wJ9_max_7cf53 X G (nI p) (nI q) Pr := by
  refine ⟨fun z => ?_, fun z => ?_⟩
  · have z' := (n_lt hp hq).mp z
    rw [Nat.max_eq_right (by omega)] at h; exact h
  · have z' : ¬ p < q := fun e => z ((n_lt hp hq).mpr e)
    rw [Nat.max_eq_left (by omega)] at h; exact h
theorem sp_min {G : Gt} {p q : Nat} {Pr : Int32 → Gt → Prop} (hp : p < 2 ^ 31) (hq : q < 2 ^ 31) (h : Pr (nI (min p q)) G) : wJ9_min_7cf53 X G (nI p) (nI q) Pr := by
  refine ⟨fun z => ?_, fun z => ?_⟩
  · have z' := (n_lt hq hp).mp z
    rw [Nat.min_eq_right (by omega)] at h; exact h
  · have z' : ¬ q < p := fun e => z ((n_lt hq hp).mpr e)
    rw [Nat.min_eq_left (by omega)] at h; exact h
theorem n_shr1 {x : Nat} (h : x < 2 ^ 31) : nI x >>> ((1 : Int32) &&& 31) = nI (x / 2) := pk_shrN h _ 1 (by decide)
/-- the row grows by half -/
theorem sp_grow20 {Pr : Option Nat → Gt → Prop} (h : AL X G a b c l) (hl : l.length = c) (hc : 10 ≤ c) (hc5 : c + c / 2 < 5000) (r1 : gH G + 1 ≤ xC X) (r2 : gU G + (c + c / 2) ≤ xS X)
    (k : ∀ G', gH G' = gH G + 1 → gU G' = gU G + (c + c / 2) → ch G G' (fun x => x = a) → gT G' a = (1, 0) → gT G' (gH G) = (3, c + c / 2) → gR G' 1 a = some (gH G) → (∀ k, k < l.length → gB G' (gH G) k = some (l.getD k 0)) → Pr (some (gH G)) G') : wJx4a65c_grow_92f84_20 X Pr G a (nI (c + 1)) (nI c) := by
  obtain ⟨l1, l2, l3, l4, l5, l6, l7, l8, l9⟩ := id h
  rcases l9 with ⟨q1, _⟩ | ⟨q1, q2, q3, q4⟩
  · omega
  unfold wJx4a65c_grow_92f84_20 wJ8_newLength_cabcc
  rw [n_sub (by omega), n_shr1 (by omega), show c + 1 - c = 1 by omega]
  refine sp_max (by decide) (by omega) ?_
  rw [show max 1 (c / 2) = c / 2 by omega, n_add]
  refine ⟨fun z => absurd ((n_le (b := 0) (by omega) (by decide)).mp z) (by omega), fun _ => ⟨fun z => absurd ((n_lt (a := 2147483639) (by decide) (by omega)).mp z) (by omega), fun _ => ⟨l1, b, l4, by rw [q3], ?_⟩⟩⟩
  unfold wJ7_copyOf_6403c
  rw [n_cl (by omega)]
  refine ⟨fun z => absurd rfl z, fun _ => ⟨n_neg (by omega), by omega, r1, r2, ?_⟩⟩
  rintro G1 rfl
  have t1 : ∀ x, x < gH G → gT (nB G 3 (c + c / 2)) x = gT G x := fun x hx => va_up_ne _ _ (Nat.ne_of_lt hx)
  have t2 : gT (nB G 3 (c + c / 2)) (gH G) = (3, c + c / 2) := va_up_self _ _ _
  have t3 : gB (nB G 3 (c + c / 2)) b = gB G b := va_up_ne _ _ (Nat.ne_of_lt l3)
  rw [t1 b l3, q3]
  refine ⟨Or.inl rfl, sp_min (by omega) (by omega) ?_⟩
  rw [show min c (c + c / 2) = c by omega, n_cl (by omega), t1 b l3, t2, q3]
  refine ⟨rfl, rfl, by decide, by decide, n_neg (by omega), by show 0 + c ≤ c; omega, by show 0 + c ≤ c + c / 2; omega, fun i hi y hy => ?_, ?_⟩
  · have hi' : i < l.length := by omega
    have e : gB (nB G 3 (c + c / 2)) b ((0 : Int32).toNatClampNeg + i) = some (l.getD i 0) := by
      rw [t3, show (0 : Int32).toNatClampNeg + i = i from Nat.zero_add i]; exact q4 i hi'
    rw [e] at hy
    injection hy with hy
    obtain ⟨z1, z2⟩ := l8 _ (gdm hi')
    rw [← hy, t1 _ z1]; exact z2
  · rintro G2 rfl
    refine ⟨gH G, rfl, gH G, rfl, (t1 a l2).trans l1, ?_⟩
    rintro G3 rfl
    refine k _ rfl rfl ?_ ((t1 a l2).trans l1) t2 (by rw [gR_sR, if_pos ⟨rfl, rfl⟩]) (fun j hj => ?_)
    · exact (ch.nB).tq (P' := fun x => x = a ∨ x = gH G) ((ch.sB (Or.inr rfl) (by rw [t2]; exact (show (3 : Nat) ≠ 4 by decide))).tr (ch.sR (Or.inl rfl) (Or.inl rfl))) (fun x hx z => z.elim id (fun e => absurd e (Nat.ne_of_lt hx)))
    · show gB (sB (nB G 3 (c + c / 2)) (gH G) (va_cpy (gB (nB G 3 (c + c / 2)) b) (gB (nB G 3 (c + c / 2)) (gH G)) 0 0 c)) (gH G) j = _
      rw [gB_sB, pk_cpy_in (Nat.zero_le _) (by omega), t3]
      simpa using q4 j hj
/-- what an added entry may cost: cells by the row's places, slots by four times them -/
theorem sp_add {y N : Nat} {Pr : Int32 → Gt → Prop} (h : AL X G a b c l) (hy : y < gH G ∧ (gT G y).1 = 1 ∧ (gT G y).2 < 12) (hN : l.length < N) (hN2 : N ≤ 2000) (hc : c ≤ 10 + 2 * N) (hx : xde X < gH G) (r1 : gH G + 1 ≤ xC X) (r2 : gU G + (10 + 2 * N) ≤ xS X)
    (k : ∀ G' b' c', AL X G' a b' c' (l ++ [y]) → c ≤ c' → c' ≤ 10 + 2 * N → (b' = b ∨ gH G ≤ b') → ch G G' (fun x => x = a ∨ (x = b ∧ b ≠ xde X)) → gH G' + c ≤ gH G + c' → gU G' + 4 * c ≤ gU G + 4 * c' → Pr 1 G') : wJx4a65c_add_9ea2d X G a y Pr := by
  have hne := h.ne
  obtain ⟨l1, l2, l3, l4, l5, l6, l7, l8, l9⟩ := id h
  refine ⟨l1, l1, ?_⟩
  rintro G1 rfl
  have h' : AL X (sI G 0 a (gI G 0 a + 1)) a b c l := ⟨l1, l2, l3, l4, by rw [gI_sI, if_neg (fun z => absurd z.1 (by decide))]; exact l5, l6, l7, l8, l9⟩
  have e5 : gI (sI G 0 a (gI G 0 a + 1)) 2 a = nI l.length := h'.2.2.2.2.1
  refine ⟨l1, b, l4, l1, l1, ?_⟩
  rw [e5]
  have l9' := l9
  rcases l9' with ⟨q1, q2, q3⟩ | ⟨q1, q2, q3, q4⟩
  · -- the first row
    have hl0 : l.length = 0 := by omega
    have hle : l = [] := List.length_eq_zero_iff.mp hl0
    unfold wJx4a65c_add_72be8
    have tb : gT (sI G 0 a (gI G 0 a + 1)) b = (6, 0) := q3
    rw [tb]
    refine ⟨Or.inr rfl, fun z => absurd (by rw [hl0]) z, fun _ => ⟨l1, l1, l1, ?_⟩⟩
    rw [e5, hl0]
    unfold wJx4a65c_grow_92f84
    refine ⟨l1, b, l4, ?_⟩
    rw [tb]
    refine ⟨Or.inr rfl, fun z => absurd z (by decide), fun _ => ⟨l1, b, l4, fun _ => ?_, fun z => absurd (by rw [q2]) z⟩⟩
    refine sp_max (p := 10) (q := 1) (by decide) (by decide) ⟨by decide, by decide, r1, by show gU G + 10 ≤ xS X; omega, ?_⟩
    rintro G2 rfl
    refine ⟨(va_up_ne _ _ (Nat.ne_of_lt l2)).trans l1, ?_⟩
    rintro G3 rfl
    have t1 : ∀ x, x < gH G → gT (nB (sI G 0 a (gI G 0 a + 1)) 3 10) x = gT G x := fun x hx => va_up_ne _ _ (Nat.ne_of_lt hx)
    have t2 : gT (nB (sI G 0 a (gI G 0 a + 1)) 3 10) (gH G) = (3, 10) := va_up_self _ _ _
    refine ⟨gH G, rfl, gH G, rfl, by show (gT (nB (sI G 0 a (gI G 0 a + 1)) 3 10) (gH G)).1 = 3; rw [t2], by show vp_in (nI 0) (gT (nB (sI G 0 a (gI G 0 a + 1)) 3 10) (gH G)).2; rw [t2]; exact n_in (by decide) (by decide), by show (gT (nB (sI G 0 a (gI G 0 a + 1)) 3 10) y).1 = 1; rw [t1 y hy.1]; exact hy.2.1, by show (gT (nB (sI G 0 a (gI G 0 a + 1)) 3 10) y).2 < 12; rw [t1 y hy.1]; exact hy.2.2, ?_⟩
    rintro G4 rfl
    refine ⟨(t1 a l2).trans l1, ?_⟩
    rintro G5 rfl
    refine k _ (gH G) 10 ?_ (by omega) (by omega) (Or.inr (Nat.le_refl _)) ?_ (by show gH G + 1 + c ≤ _; omega) (by show gU G + 10 + 4 * c ≤ _; omega)
    · subst hle
      refine AL.add1 (g := gB (sR (nB (sI G 0 a (gI G 0 a + 1)) 3 10) 1 a (some (gH G))) (gH G)) ((t1 a l2).trans l1) (Nat.lt_succ_of_lt l2) (Nat.lt_succ_self _) ?_ ?_ (by decide) (by decide) (fun x hx => absurd hx (by simp)) ⟨Nat.lt_succ_of_lt hy.1, by show (gT (nB (sI G 0 a (gI G 0 a + 1)) 3 10) y).1 = 1; rw [t1 y hy.1]; exact hy.2.1, by show (gT (nB (sI G 0 a (gI G 0 a + 1)) 3 10) y).2 < 12; rw [t1 y hy.1]; exact hy.2.2⟩ (by decide) (by omega) t2 ?_ (fun k hk => absurd hk (by simp))
      · show gR (sR (nB (sI G 0 a (gI G 0 a + 1)) 3 10) 1 a (some (gH G))) 1 a = _
        rw [gR_sR, if_pos ⟨rfl, rfl⟩]
      · rw [gI_sI, if_pos ⟨rfl, rfl⟩]; rfl
      · exact gB_sB
    · refine ch.tq (G' := nB (sI G 0 a (gI G 0 a + 1)) 3 10) (P' := fun x => x = a ∨ x = gH G) ((ch.sI (Or.inl rfl)).tr ch.nB) ?_ (fun x hx z => z.elim Or.inl (fun e => absurd e (Nat.ne_of_lt hx)))
      exact (ch.sR (Or.inl rfl) (Or.inl rfl)).tr ((ch.sB (Or.inr rfl) (by show (gT (nB (sI G 0 a (gI G 0 a + 1)) 3 10) (gH G)).1 ≠ 4; rw [t2]; exact (show (3 : Nat) ≠ 4 by decide))).tr (ch.sI (Or.inl rfl)))
  · unfold wJx4a65c_add_72be8
    have tb : gT (sI G 0 a (gI G 0 a + 1)) b = (3, c) := q3
    rw [tb]
    refine ⟨Or.inl rfl, fun z => ?_, fun z => ?_⟩
    · have hlc : l.length < c := Nat.lt_of_le_of_ne l6 (fun e => z (by rw [e]))
      refine ⟨rfl, n_in hlc (by omega), hy.2.1, hy.2.2, ?_⟩
      rintro G2 rfl
      refine ⟨l1, ?_⟩
      rintro G3 rfl
      refine k _ b c ?_ (Nat.le_refl _) hc (Or.inl rfl) ?_ (Nat.le_refl _) (Nat.le_refl _)
      · refine AL.add1 (g := gB G b) l1 l2 l3 l4 ?_ hlc l7 l8 hy q1 q2 q3 ?_ q4
        · rw [gI_sI, if_pos ⟨rfl, rfl⟩, nI_1]
        · show gB (sB (sI G 0 a (gI G 0 a + 1)) b (va_up (gB G b) (nI l.length).toNatClampNeg (some y))) b = _
          rw [gB_sB, n_cl (by omega)]
      · exact (ch.sI (Or.inl rfl)).tr ((ch.sB (Or.inr ⟨rfl, q2⟩) (by show (gT G b).1 ≠ 4; rw [q3]; exact (show (3 : Nat) ≠ 4 by decide))).tr (ch.sI (Or.inl rfl)))
    · have hlc : l.length = c := n_inj (by omega) (by omega) z
      refine ⟨l1, l1, l1, ?_⟩
      rw [e5, nI_1, hlc]
      unfold wJx4a65c_grow_92f84
      refine ⟨l1, b, l4, ?_⟩
      rw [tb]
      refine ⟨Or.inl rfl, fun _ => ?_, fun z2 => absurd ((n_lt (a := 0) (by decide) (by omega)).mpr (show 0 < c by omega)) z2⟩
      refine sp_grow20 h' hlc q1 (by omega) r1 (by show gU G + (c + c / 2) ≤ xS X; omega) (fun G2 g1 g2 g3 g4 g5 g6 g7 => ?_)
      have g1' : gH G2 = gH G + 1 := g1
      have t1 : ∀ x, x < gH G → gT G2 x = gT G x := fun x hx => g3.2.1 x hx
      have g5' : gT G2 (gH G) = (3, c + c / 2) := g5
      refine ⟨gH G, rfl, gH G, rfl, by rw [g5'], by rw [g5']; exact n_in (show c < c + c / 2 by omega) (by omega), by rw [t1 y hy.1]; exact hy.2.1, by rw [t1 y hy.1]; exact hy.2.2, ?_⟩
      rintro G3 rfl
      refine ⟨g4, ?_⟩
      rintro G4 rfl
      refine k _ (gH G) (c + c / 2) ?_ (by omega) (by omega) (Or.inr (Nat.le_refl _)) ?_ (by show gH G2 + c ≤ _; omega) (by show gU G2 + 4 * c ≤ _; rw [g2]; show gU G + (c + c / 2) + 4 * c ≤ _; omega)
      · refine AL.add1 (g := gB G2 (gH G)) g4 (by show a < gH G2; omega) (by show gH G < gH G2; omega) g6 ?_ (by omega) (by omega) (fun x hx => ?_) ⟨by show y < gH G2; omega, by show (gT G2 y).1 = 1; rw [t1 y hy.1]; exact hy.2.1, by show (gT G2 y).2 < 12; rw [t1 y hy.1]; exact hy.2.2⟩ (by omega) (by omega) g5' ?_ g7
        · rw [gI_sI, if_pos ⟨rfl, rfl⟩, hlc]
        · obtain ⟨z1, z2, z3⟩ := l8 x hx
          exact ⟨by show x < gH G2; omega, by show (gT G2 x).1 = 1; rw [t1 x z1]; exact z2, by show (gT G2 x).2 < 12; rw [t1 x z1]; exact z3⟩
        · show gB (sB G2 (gH G) (va_up (gB G2 (gH G)) (nI c).toNatClampNeg (some y))) (gH G) = _
          rw [gB_sB, n_cl (by omega), hlc]
      · refine ((ch.sI (Or.inl rfl)).tr (g3.mono (fun x _ e => Or.inl e))).tq (P' := fun x => x = a ∨ x = gH G) ((ch.sB (Or.inr rfl) (by rw [g5']; exact (show (3 : Nat) ≠ 4 by decide))).tr (ch.sI (Or.inl rfl))) (fun x hx z => z.elim Or.inl (fun e => absurd e (Nat.ne_of_lt hx)))
theorem er_gd {l : List Nat} {i j : Nat} : (l.eraseIdx i).getD j 0 = if j < i then l.getD j 0 else l.getD (j + 1) 0 := by
  simp only [List.getD, List.getElem?_eraseIdx]
  by_cases e : j < i
  · simp [e]
  · simp [e]
theorem sp_remove {k : Nat} {Pr : Option Nat → Gt → Prop} {Px : String → Gt → Prop} (h : AL X G a b c l) (hk : k < l.length)
    (hp : ∀ G', AL X G' a b c (l.eraseIdx k) → ch G G' (fun x => x = a ∨ (x = b ∧ b ≠ xde X)) → gH G' = gH G → gU G' = gU G → Pr (some (l.getD k 0)) G') : wJx4a65c_remove_915e3 X G a (nI k) Pr Px := by
  have hne := h.ne
  obtain ⟨l1, l2, l3, l4, l5, l6, l7, l8, l9⟩ := id h
  rcases l9 with ⟨q1, _⟩ | ⟨q1, q2, q3, q4⟩
  · omega
  have hle : (l.eraseIdx k).length = l.length - 1 := List.length_eraseIdx_of_lt hk
  refine ⟨l1, ?_⟩
  rw [l5]
  refine sp_checkIndex hk (by omega) ⟨l1, b, l4, by rw [q3], by rw [q3]; exact n_in (show k < c by omega) (by omega), l1, l1, l1, ?_⟩
  rintro G1 rfl
  have e5 : gI (sI G 0 a (gI G 0 a + 1)) 2 a = nI l.length := by rw [gI_sI, if_neg (fun z => absurd z.1 (by decide))]; exact l5
  have e6 : nI l.length - 1 = nI (l.length - 1) := n_sub (b := 1) (by omega)
  have tb : gT (sI G 0 a (gI G 0 a + 1)) b = (3, c) := q3
  rw [e5, e6, n_cl (n := k) (by omega), q4 k hk]
  refine ⟨l1, fun z => ⟨l1, ?_⟩, fun z => ?_⟩
  · have z' : l.length - 1 ≤ k := (n_le (by omega) (by omega)).mp z
    rintro G2 rfl
    have tb2 : gT (sI (sI G 0 a (gI G 0 a + 1)) 2 a (nI (l.length - 1))) b = (3, c) := q3
    rw [tb2]
    refine ⟨rfl, n_in (show l.length - 1 < c by omega) (by omega), ?_⟩
    rintro G3 rfl
    refine hp _ ⟨l1, l2, l3, l4, ?_, by omega, l7, fun y hy => l8 y (List.mem_of_mem_eraseIdx hy), Or.inr ⟨q1, q2, q3, fun j hj => ?_⟩⟩ ((ch.sI (Or.inl rfl)).tr ((ch.sI (Or.inl rfl)).tr (ch.sB (Or.inr ⟨rfl, q2⟩) (by show (gT G b).1 ≠ 4; rw [q3]; exact (show (3 : Nat) ≠ 4 by decide))))) rfl rfl
    · rw [hle]; show gI (sI (sI G 0 a (gI G 0 a + 1)) 2 a (nI (l.length - 1))) 2 a = _
      rw [gI_sI, if_pos ⟨rfl, rfl⟩]
    · rw [hle] at hj
      rw [gB_sB, n_cl (by omega), va_up_ne _ _ (by omega), er_gd, if_pos (by omega)]
      exact q4 j (by omega)
  · have z' : k < l.length - 1 := Nat.lt_of_not_le (fun q => z ((n_le (by omega) (by omega)).mpr q))
    rw [tb, nI_1, n_sub (by omega), n_cl (by omega), n_cl (by omega)]
    refine ⟨rfl, rfl, n_neg (by omega), n_neg (by omega), n_neg (by omega), by show k + 1 + (l.length - 1 - k) ≤ c; omega, by show k + (l.length - 1 - k) ≤ c; omega, fun i hi y hy => ?_, ?_⟩
    · have e : gB G b (k + 1 + i) = some (l.getD (k + 1 + i) 0) := q4 _ (by omega)
      have hy' : gB G b (k + 1 + i) = some y := hy
      rw [e] at hy'
      injection hy' with hy'
      rw [← hy']
      exact (l8 _ (gdm (by omega))).2
    · rintro G2 rfl
      refine ⟨l1, ?_⟩
      rintro G3 rfl
      refine ⟨by show (gT G b).1 = 3; rw [q3], by show vp_in (nI (l.length - 1)) (gT G b).2; rw [q3]; exact n_in (show l.length - 1 < c by omega) (by omega), ?_⟩
      rintro G4 rfl
      refine hp _ ⟨l1, l2, l3, l4, ?_, by omega, l7, fun y hy => l8 y (List.mem_of_mem_eraseIdx hy), Or.inr ⟨q1, q2, q3, fun j hj => ?_⟩⟩ ((ch.sI (Or.inl rfl)).tr ((ch.sB (Or.inr ⟨rfl, q2⟩) (by show (gT G b).1 ≠ 4; rw [q3]; exact (show (3 : Nat) ≠ 4 by decide))).tr ((ch.sI (Or.inl rfl)).tr (ch.sB (Or.inr ⟨rfl, q2⟩) (by show (gT G b).1 ≠ 4; rw [q3]; exact (show (3 : Nat) ≠ 4 by decide)))))) rfl rfl
      · rw [hle]
        show gI (sI _ 2 a (nI (l.length - 1))) 2 a = _
        rw [gI_sI, if_pos ⟨rfl, rfl⟩]
      · rw [hle] at hj
        rw [gB_sB, n_cl (by omega), va_up_ne _ _ (by omega)]
        show gB (sB (sI G 0 a (gI G 0 a + 1)) b (va_cpy (gB G b) (gB G b) (k + 1) k (l.length - 1 - k))) b j = _
        rw [gB_sB, er_gd]
        by_cases e : j < k
        · rw [if_pos e, pk_cpy_out (Or.inl e)]; exact q4 j (by omega)
        · rw [if_neg e, pk_cpy_in (by omega) (by omega), q4 _ (by omega)]
          congr 2; omega
end LSS
