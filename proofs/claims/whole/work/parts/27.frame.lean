/-! ===== Frame: its bytes as a list ===== -/
/-- nothing is made, no reference changes; outside P nothing changes at all -/
def cg (G G' : Gt) (P : Nat → Prop) : Prop := gH G' = gH G ∧ gU G' = gU G ∧ (∀ a, gT G' a = gT G a) ∧ (∀ f a, gR G' f a = gR G f a) ∧ (∀ a, gB G' a = gB G a) ∧ ∀ a, ¬ P a → eqAt G G' a
theorem cg.rf {G : Gt} {P : Nat → Prop} : cg G G P := ⟨rfl, rfl, fun _ => rfl, fun _ _ => rfl, fun _ => rfl, fun _ _ => eqAt.rf⟩
theorem cg.tr {G G' G'' : Gt} {P : Nat → Prop} (h1 : cg G G' P) (h2 : cg G' G'' P) : cg G G'' P := ⟨h2.1.trans h1.1, h2.2.1.trans h1.2.1, fun a => (h2.2.2.1 a).trans (h1.2.2.1 a), fun f a => (h2.2.2.2.1 f a).trans (h1.2.2.2.1 f a), fun a => (h2.2.2.2.2.1 a).trans (h1.2.2.2.2.1 a), fun a ha => (h1.2.2.2.2.2 a ha).tr (h2.2.2.2.2.2 a ha)⟩
theorem cg.mono {G G' : Gt} {P P' : Nat → Prop} (h : cg G G' P) (hp : ∀ a, P a → P' a) : cg G G' P' := ⟨h.1, h.2.1, h.2.2.1, h.2.2.2.1, h.2.2.2.2.1, fun a ha => h.2.2.2.2.2 a (fun z => ha (hp a z))⟩
theorem cg.sI {G : Gt} {f a : Nat} {x : Int32} {P : Nat → Prop} (h : P a) : cg G (sI G f a x) P := ⟨rfl, rfl, fun _ => rfl, fun _ _ => rfl, fun _ => rfl, fun b hb => eqAt.sI (fun e => hb (by rw [e]; exact h))⟩
theorem cg.sJ {G : Gt} {f a : Nat} {x : Int64} {P : Nat → Prop} (h : P a) : cg G (sJ G f a x) P := ⟨rfl, rfl, fun _ => rfl, fun _ _ => rfl, fun _ => rfl, fun b hb => eqAt.sJ (fun e => hb (by rw [e]; exact h))⟩
theorem cg.sA {G : Gt} {a : Nat} {g : Nat → Int32} {P : Nat → Prop} (h : P a) : cg G (sA G a g) P := ⟨rfl, rfl, fun _ => rfl, fun _ _ => rfl, fun _ => rfl, fun b hb => eqAt.sA (fun e => hb (by rw [e]; exact h))⟩
def FR (G : Gt) (f bb : Nat) (l : List Nat) : Prop := gT G f = (1, 4) ∧ gR G 128 f = some bb ∧ gT G bb = (2, 37) ∧ gI G 129 f = nI l.length ∧ l.length ≤ 37 ∧ (∀ k, k < l.length → gA G bb k = nI (l.getD k 0)) ∧ ∀ b ∈ l, b < 256
theorem FR.ne {G : Gt} {f bb : Nat} {l : List Nat} (h : FR G f bb l) : bb ≠ f := fun e => by
  have h1 := h.1
  have h2 := h.2.2.1
  rw [e, h1] at h2
  cases h2
theorem FR.keep {G G' : Gt} {f bb : Nat} {l : List Nat} (h : FR G f bb l) (h1 : eqAt G G' f) (h2 : eqAt G G' bb) : FR G' f bb l := ⟨h1.1.trans h.1, (h1.2.2.2.1 _).trans h.2.1, h2.1.trans h.2.2.1, (h1.2.1 _).trans h.2.2.2.1, h.2.2.2.2.1, fun k hk => by rw [h2.2.2.2.2.1]; exact h.2.2.2.2.2.1 k hk, h.2.2.2.2.2.2⟩
theorem gd_lt {l : List Nat} {x k : Nat} (h : k < l.length) : (l ++ [x]).getD k 0 = l.getD k 0 := by simp [List.getD, List.getElem?_append_left h]
theorem gd_eq {l : List Nat} {x : Nat} : (l ++ [x]).getD l.length 0 = x := by simp [List.getD]
theorem gd_ge {l : List Nat} {k : Nat} (h : l.length ≤ k) : l.getD k 0 = 0 := by simp [List.getD, List.getElem?_eq_none h]
theorem gd_b {l : List Nat} (h : ∀ b ∈ l, b < 256) (k : Nat) : l.getD k 0 < 256 := by
  by_cases hk : k < l.length
  · have e : l.getD k 0 = l[k] := by simp [List.getD, hk]
    rw [e]
    exact h _ (List.getElem_mem hk)
  · rw [gd_ge (by omega)]; decide
theorem tk_s {l : List Nat} {k : Nat} (h : k < l.length) : l.take (k + 1) = l.take k ++ [l.getD k 0] := by
  rw [List.take_succ]
  simp [List.getD, h]
section FRB
variable {X : Xt} {G : Gt} {f bb : Nat} {l : List Nat}
theorem sp_putByte {x1 : Int32} {x : Nat} {Pr : Gt → Prop} (h : FR G f bb l) (hl : l.length < 37) (hx : x1 &&& 255 = nI x) (hx2 : x < 256) (k : ∀ G', FR G' f bb (l ++ [x]) → cg G G' (fun a => a = f ∨ a = bb) → Pr G') : wX3_putByte X G f x1 Pr := by
  obtain ⟨h1, h2, h3, h4, h5, h6, h7⟩ := id h
  have hne := h.ne
  unfold wX3_putByte
  rw [h4]
  refine ⟨h1, fun z => absurd ((n_le (a := 37) (by decide) (by omega)).mp z) (by omega), fun _ => ⟨h1, bb, h2, h1, by rw [h3], by rw [h3]; exact n_in hl (by decide), ?_⟩⟩
  rintro G1 rfl
  refine ⟨h1, h1, ?_⟩
  rintro G2 rfl
  refine k _ ?_ ((cg.sA (Or.inr rfl)).tr (cg.sI (Or.inl rfl)))
  have e1 : gI (sA G bb (upd (gA G bb) (nI l.length).toNatClampNeg (x1 &&& 255))) 129 f = nI l.length := h4
  refine ⟨h1, h2, h3, ?_, by simp; omega, fun j hj => ?_, fun b hb => ?_⟩
  · rw [gI_sI, if_pos ⟨rfl, rfl⟩, e1, List.length_append, nI_1]; rfl
  · rw [List.length_append] at hj
    have hj' : j < l.length + 1 := hj
    show gA (sA G bb (upd (gA G bb) (nI l.length).toNatClampNeg (x1 &&& 255))) bb j = _
    rw [gA_sA, n_cl (by omega), hx]
    by_cases e : j = l.length
    · subst e; rw [gd_eq]; simp [upd]
    · rw [gd_lt (by omega), ← h6 j (by omega)]; simp [upd, e]
  · rcases List.mem_append.mp hb with z | z
    · exact h7 b z
    · rw [List.mem_singleton.mp z]; exact hx2
theorem sp_putB {x : Nat} {Pr : Gt → Prop} (h : FR G f bb l) (hl : l.length < 37) (hx : x < 2 ^ 31) (k : ∀ G', FR G' f bb (l ++ [x % 256]) → cg G G' (fun a => a = f ∨ a = bb) → Pr G') : wX3_putByte X G f (nI x) Pr := sp_putByte h hl (n_mod256 hx) (by omega) k
theorem sp_putWord {x : Nat} {Pr : Gt → Prop} (h : FR G f bb l) (hl : l.length + 2 ≤ 37) (hx : x < 65536) (k : ∀ G', FR G' f bb (l ++ [x / 256, x % 256]) → cg G G' (fun a => a = f ∨ a = bb) → Pr G') : wX3_putWord X G f (nI x) Pr := by
  unfold wX3_putWord
  rw [n_shr8 (by omega)]
  refine ⟨h.1, sp_putB h (by omega) (by omega) (fun G1 h1 c1 => ⟨h1.1, sp_putB h1 (by simp; omega) (by omega) (fun G2 h2 c2 => k G2 ?_ (c1.tr c2))⟩)⟩
  rw [Nat.mod_eq_of_lt (show x / 256 < 256 by omega)] at h2
  simpa using h2
theorem sp_open {d n : Nat} {Pr : Gt → Prop} (h : FR G f bb l) (hd : d < 256) (hn : n < 256) (k : ∀ G', FR G' f bb [d, n] → cg G G' (fun a => a = f ∨ a = bb) → Pr G') : wX3_open X G f (nI d) (nI n) Pr := by
  unfold wX3_open
  refine ⟨h.1, ?_⟩
  rintro G1 rfl
  have h0 : FR (sI G 129 f 0) f bb [] := ⟨h.1, h.2.1, h.2.2.1, by rw [gI_sI, if_pos ⟨rfl, rfl⟩]; rfl, by simp, fun j hj => by simp at hj, fun b hb => by simp at hb⟩
  refine ⟨h.1, sp_putB h0 (by simp) (by omega) (fun G2 h2 c2 => ⟨h2.1, sp_putB h2 (by simp) (by omega) (fun G3 h3 c3 => k G3 ?_ ((cg.sI (Or.inl rfl)).tr (c2.tr c3)))⟩)⟩
  rw [Nat.mod_eq_of_lt hd, Nat.mod_eq_of_lt hn] at h3
  simpa using h3
theorem sp_sumOf {n : Nat} {Pr : Int32 → Gt → Prop} (h : FR G f bb l) (hn : n ≤ l.length) (hp : Pr (nI (crcN 65535 (l.take n))) G) : wX3_sumOf X G f (nI n) Pr := by
  obtain ⟨h1, h2, h3, h4, h5, h6, h7⟩ := id h
  refine ⟨fun g a0 x1 x2 x3 => g = G ∧ a0 = f ∧ x1 = nI n ∧ ∃ k, k ≤ n ∧ x3 = nI k ∧ x2 = nI (crcN 65535 (l.take k)), fun _ _ _ _ x3 => n - x3.toNatClampNeg, ⟨rfl, rfl, rfl, 0, by omega, rfl, rfl⟩, ?_⟩
  rintro g a0 x1 x2 x3 ⟨rfl, rfl, rfl, k, hk, rfl, rfl⟩
  unfold wX3_sumOf_5
  refine ⟨fun z => ?_, fun z => ?_⟩
  · have z' : n ≤ k := (n_le (by omega) (by omega)).mp z
    have e : k = n := by omega
    subst e
    exact hp
  · have hk' : k < n := Nat.lt_of_not_le (fun q => z ((n_le (by omega) (by omega)).mpr q))
    have hkl : k < l.length := by omega
    have hb : l.getD k 0 < 256 := gd_b h7 k
    have hc : crcN 65535 (l.take k) < 65536 := crcN_lt _ _ (by decide) (fun b hb => h7 b (List.mem_of_mem_take hb))
    refine ⟨fun z2 => absurd ((n_le (a := 37) (by decide) (by omega)).mp z2) (by omega), fun z2 => ⟨h1, bb, h2, by rw [h3], by rw [h3]; exact n_in (show k < 37 by omega) (by decide), sp_nextSum ⟨⟨rfl, rfl, rfl, k + 1, by omega, nI_1 k, ?_⟩, ?_⟩⟩⟩
    · rw [n_cl (by omega), h6 k hkl, n_xor, c8_n (x_lt hc (by omega)), tk_s hkl, crcN_app]
    · dsimp only
      rw [nI_1, n_cl (by omega), n_cl (by omega)]
      omega
theorem sp_seal {Pr : Gt → Prop} (h : FR G f bb l) (hl : l.length + 2 ≤ 37) (k : ∀ G', FR G' f bb (l ++ [crcN 65535 l % 256, crcN 65535 l / 256]) → cg G G' (fun a => a = f ∨ a = bb) → Pr G') : wX3_seal X G f Pr := by
  have hc : crcN 65535 l < 65536 := crcN_lt _ _ (by decide) h.2.2.2.2.2.2
  unfold wX3_seal
  rw [h.2.2.2.1]
  refine ⟨h.1, h.1, sp_sumOf h (Nat.le_refl _) ⟨h.1, ?_⟩⟩
  rw [List.take_length]
  refine sp_putB h (by omega) (by omega) (fun G1 h1 c1 => ⟨h1.1, ?_⟩)
  rw [n_shr8 (by omega)]
  refine sp_putB h1 (by simp; omega) (by omega) (fun G2 h2 c2 => k G2 ?_ (c1.tr c2))
  rw [Nat.mod_eq_of_lt (show crcN 65535 l / 256 < 256 by omega)] at h2
  simpa using h2
theorem sp_byteAt {k : Nat} {Pr : Int32 → Gt → Prop} (h : FR G f bb l) (hk : k < 2 ^ 31) (hp : Pr (nI (l.getD k 0)) G) : wX3_byteAt X G f (nI k) Pr := by
  obtain ⟨h1, h2, h3, h4, h5, h6, h7⟩ := id h
  unfold wX3_byteAt
  rw [h4]
  refine ⟨fun z => absurd z (n_neg hk), fun _ => ⟨h1, fun z => ?_, fun z => ⟨h1, bb, h2, by rw [h3], ?_, ?_⟩⟩⟩
  · have z' := (n_le (by omega) hk).mp z
    rw [gd_ge z'] at hp
    exact hp
  · have z' : k < l.length := Nat.lt_of_not_le (fun q => z ((n_le (by omega) hk).mpr q))
    rw [h3]; exact n_in (by show k < 37; omega) (by decide)
  · have z' : k < l.length := Nat.lt_of_not_le (fun q => z ((n_le (by omega) hk).mpr q))
    rw [n_cl hk, h6 k z']; exact hp
/-- the word at i, 0 if it isn't all there -/
def wd (l : List Nat) (i : Nat) : Nat := if i + 1 < l.length then l.getD i 0 * 256 + l.getD (i + 1) 0 else 0
theorem wd_lt {l : List Nat} (h : ∀ b ∈ l, b < 256) (i : Nat) : wd l i < 65536 := by
  unfold wd
  have h1 := gd_b h i
  have h2 := gd_b h (i + 1)
  by_cases e : i + 1 < l.length
  · rw [if_pos e]; omega
  · rw [if_neg e]; decide
theorem sp_wordAt {k : Nat} {Pr : Int32 → Gt → Prop} (h : FR G f bb l) (hk : k < 2 ^ 30) (hp : Pr (nI (wd l k)) G) : wX3_wordAt X G f (nI k) Pr := by
  obtain ⟨h1, h2, h3, h4, h5, h6, h7⟩ := id h
  have hcond : (nI l.length - 1 ≤ nI k) ↔ ¬ k + 1 < l.length := by
    by_cases hl : l.length = 0
    · rw [hl]
      constructor
      · intro _; omega
      · intro _
        rw [Int32.le_iff_toInt_le, nI_toInt (by omega)]
        have : (nI 0 - 1).toInt = -1 := by decide
        rw [this]
        omega
    · rw [show nI l.length - 1 = nI (l.length - 1) from n_sub (b := 1) (by omega), n_le (by omega) (by omega)]
      omega
  unfold wX3_wordAt
  rw [h4]
  refine ⟨fun z => absurd z (n_neg (by omega)), fun _ => ⟨h1, fun z => ?_, fun z => ?_⟩⟩
  · have z' := hcond.mp z
    unfold wd at hp
    rw [if_neg z'] at hp
    exact hp
  · have z' : k + 1 < l.length := Decidable.of_not_not (fun q => z (hcond.mpr q))
    refine ⟨h1, bb, h2, by rw [h3], by rw [h3]; exact n_in (by show k < 37; omega) (by decide), h1, bb, h2, by rw [h3], ?_, ?_⟩
    · rw [h3, nI_1]; exact n_in (by show k + 1 < 37; omega) (by decide)
    · unfold wd at hp
      rw [if_pos z'] at hp
      have hb1 := gd_b h7 k
      have hb2 := gd_b h7 (k + 1)
      rw [nI_1, n_cl (by omega), n_cl (by omega), h6 k (by omega), h6 (k + 1) z', n_shl8 (by omega), n_or, n_word hb2]
      exact hp
end FRB
