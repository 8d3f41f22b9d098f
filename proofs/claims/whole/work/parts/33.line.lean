/-! ===== Line ===== -/
abbrev Rp : Type := Nat × Nat × List Nat
def dr : Rp := (0, 0, [])
def RT (G : Gt) (y : Nat) : Prop := gT G y = (1, 8) ∧ gR G 256 y = some (y + 1) ∧ ∃ l, FR G (y + 1) (y + 2) l
theorem RP.rt {G : Gt} {y bg cs : Nat} {l : List Nat} (h : RP G y bg cs l) : RT G y := ⟨h.1, h.2.1, l, h.2.2.1⟩
def PL (sd : Nat → Nat) (s : Nat) (G : Gt) (y : Nat) : Prop := y + 2 < gH G ∧ sd y = s ∧ sd (y + 1) = s ∧ sd (y + 2) = s ∧ RT G y
theorem PL.keep {sd : Nat → Nat} {s : Nat} {G G' : Gt} {y : Nat} {P : Nat → Prop} (h : PL sd s G y) (c : ch G G' P) (hp : ¬ P y ∧ ¬ P (y + 1) ∧ ¬ P (y + 2)) : PL sd s G' y := by
  obtain ⟨h1, h2, h3, h4, h5, h6, l, h7⟩ := h
  have e0 := c.2.2.1 y (by omega) hp.1
  have e1 := c.2.2.1 (y + 1) (by omega) hp.2.1
  have e2 := c.2.2.1 (y + 2) (by omega) hp.2.2
  exact ⟨Nat.lt_of_lt_of_le h1 c.1, h2, h3, h4, e0.1.trans h5, (e0.2.2.2.1 _).trans h6, l, h7.keep e1 e2⟩
theorem PL.obj {sd : Nat → Nat} {s : Nat} {G : Gt} {y : Nat} (h : PL sd s G y) : y < gH G ∧ (gT G y).1 = 1 ∧ (gT G y).2 < 12 := by
  have := h.2.2.2.2.1
  rw [this]
  exact ⟨by have := h.1; omega, rfl, (by show (8 : Nat) < 12; decide)⟩
/-- kinds of the three cells of a reply -/
theorem PL.k {sd : Nat → Nat} {s : Nat} {G : Gt} {y : Nat} (h : PL sd s G y) : gT G y = (1, 8) ∧ gT G (y + 1) = (1, 4) ∧ gT G (y + 2) = (2, 37) := by
  obtain ⟨_, _, _, _, h5, _, l, h7⟩ := h
  exact ⟨h5, h7.1, h7.2.2.1⟩
theorem er_perm : ∀ (l : List Nat) (k : Nat), k < l.length → List.Perm l (l.getD k 0 :: l.eraseIdx k)
  | [], k, h => absurd h (by simp)
  | a :: l, 0, _ => by simp
  | a :: l, k + 1, h => by
    have ih := er_perm l k (by simpa using h)
    have e : (a :: l).getD (k + 1) 0 = l.getD k 0 := by simp [List.getD]
    rw [e]
    exact (List.Perm.cons a ih).trans (List.Perm.swap _ _ _)
/-- the line at n: lists of sent and spare replies, those in hand, the pool of all; N bounds the pool, z is what it has cost -/
def LN (X : Xt) (sd : Nat → Nat) (s : Nat) (G : Gt) (n N z : Nat) (rs sp hd pool : List Nat) (L : List Rp) : Prop :=
  ∃ br cr bs cs, (gT G n = (1, 5) ∧ gR G 160 n = some (n + 1) ∧ gR G 161 n = some (n + 2) ∧ n < gH G ∧ sd n = s ∧ sd (n + 1) = s ∧ sd (n + 2) = s) ∧
    AL X G (n + 1) br cr rs ∧ AL X G (n + 2) bs cs sp ∧ (br = bs → br = xde X) ∧ (br ≠ xde X → sd br = s) ∧ (bs ≠ xde X → sd bs = s) ∧ List.Perm (rs ++ (sp ++ hd)) pool ∧ pool.Nodup ∧ (∀ y ∈ pool, PL sd s G y) ∧ pool.length ≤ N ∧ cr ≤ 10 + 2 * N ∧ cs ≤ 10 + 2 * N ∧ z = cr + cs + 3 * pool.length ∧ rs.length = L.length ∧ ∀ k, k < rs.length → RP G (rs.getD k 0) (L.getD k dr).1 (L.getD k dr).2.1 (L.getD k dr).2.2
/-- the room's cost of an operation on the line -/
def cost (G G' : Gt) (z z' : Nat) : Prop := z ≤ z' ∧ gH G' + z ≤ gH G + z' ∧ gU G' + 14 * z ≤ gU G + 14 * z'
section LINE
variable {X : Xt} {sd : Nat → Nat} {s : Nat} {G : Gt} {n N z : Nat} {rs sp hd pool : List Nat} {L : List Rp}
theorem sp_recycle {y : Nat} {Pr : Gt → Prop} (h : LN X sd s G n N z rs sp (y :: hd) pool L) (hN : N ≤ 2000) (hx : xde X < gH G) (hs : ∀ a, gH G ≤ a → sd a = s) (r1 : gH G + 1 ≤ xC X) (r2 : gU G + (10 + 2 * N) ≤ xS X)
    (k : ∀ G' z', LN X sd s G' n N z' rs (sp ++ [y]) hd pool L → ch G G' (fun a => sd a = s ∧ gT G a ≠ (1, 8) ∧ gT G a ≠ (1, 4) ∧ gT G a ≠ (2, 37)) → cost G G' z z' → Pr G') : wX4_recycle X G n y Pr := by
  obtain ⟨br, cr, bs, cs, ⟨t1, t2, t3, t4, t5, t6, t7⟩, hr, hsp, hne, cbr, cbs, hp, hnd, hpl, hpn, hcr, hcs, hz, hL, hRP⟩ := h
  have hlen := hp.length_eq
  simp only [List.length_append, List.length_cons] at hlen
  have hy : y ∈ pool := hp.mem_iff.mp (by simp)
  refine ⟨t1, n + 2, t3, hsp.1, sp_add (N := N) hsp (hpl y hy).obj (by omega) hN hcs hx r1 r2 (fun G' b' c' a1 a2 a3 a4 a5 a6 a7 => ?_)⟩
  have kr := hr.2.2.1
  have kinds : ∀ q, q ∈ pool → ∀ a, (a = q ∨ a = q + 1 ∨ a = q + 2) → ¬ (a = n + 2 ∨ (a = bs ∧ bs ≠ xde X)) := by
    intro q hq a ha hh
    obtain ⟨k1, k2, k3⟩ := (hpl q hq).k
    have kk : gT G a = (1, 8) ∨ gT G a = (1, 4) ∨ gT G a = (2, 37) := by
      rcases ha with e | e | e <;> subst e
      · exact Or.inl k1
      · exact Or.inr (Or.inl k2)
      · exact Or.inr (Or.inr k3)
    rcases hh with e | ⟨e, e2⟩
    · rw [e, hsp.1] at kk
      simp at kk
    · rcases hsp.2.2.2.2.2.2.2.2 with ⟨_, q2, _⟩ | ⟨_, _, q3, _⟩
      · exact e2 q2
      · rw [e, q3] at kk
        simp at kk
  have hch : ch G G' (fun a => sd a = s ∧ gT G a ≠ (1, 8) ∧ gT G a ≠ (1, 4) ∧ gT G a ≠ (2, 37)) := a5.mono (fun a ha hh => by
    rcases hh with e | ⟨e, e2⟩
    · rw [e, hsp.1]; exact ⟨t7, by simp, by simp, by simp⟩
    · rcases hsp.2.2.2.2.2.2.2.2 with ⟨_, q2, _⟩ | ⟨_, _, q3, _⟩
      · exact absurd q2 e2
      · rw [e, q3]; exact ⟨cbs e2, by simp, by simp, by simp⟩)
  have en := a5.2.2.1 n t4 (by
    intro hh
    rcases hh with e | ⟨e, e2⟩
    · omega
    · rcases hsp.2.2.2.2.2.2.2.2 with ⟨_, q2, _⟩ | ⟨_, _, q3, _⟩
      · exact e2 q2
      · rw [← e, t1] at q3; cases q3)
  refine k G' (cr + c' + 3 * pool.length) ⟨br, cr, b', c', ⟨en.1.trans t1, (en.2.2.2.1 _).trans t2, (en.2.2.2.1 _).trans t3, Nat.lt_of_lt_of_le t4 a5.1, t5, t6, t7⟩, ?_, a1, ?_, cbr, ?_, ?_, hnd, fun q hq => ?_, hpn, hcr, a3, rfl, hL, fun j hj => ?_⟩ hch ⟨by omega, by omega, by omega⟩
  · refine hr.keep a5 (by
      intro hh
      rcases hh with e | ⟨e, e2⟩
      · omega
      · rcases hsp.2.2.2.2.2.2.2.2 with ⟨_, q2, _⟩ | ⟨_, _, q3, _⟩
        · exact e2 q2
        · rw [← e, hr.1] at q3; cases q3) (fun hb hh => ?_)
    rcases hh with e | ⟨e, e2⟩
    · have := hsp.1
      rw [← e] at this
      rcases hr.2.2.2.2.2.2.2.2 with ⟨_, q2, _⟩ | ⟨_, _, q3, _⟩
      · exact hb q2
      · rw [this] at q3; cases q3
    · exact hb (hne e)
  · intro e
    rcases a4 with e2 | e2
    · exact hne (e.trans e2)
    · omega
  · intro hb
    rcases a4 with e2 | e2
    · rw [e2] at hb ⊢; exact cbs hb
    · exact hs _ e2
  · refine List.Perm.trans ?_ hp
    refine List.Perm.append_left rs ?_
    rw [List.append_assoc]
    exact List.Perm.refl _
  · exact (hpl q hq).keep a5 ⟨kinds q hq _ (Or.inl rfl), kinds q hq _ (Or.inr (Or.inl rfl)), kinds q hq _ (Or.inr (Or.inr rfl))⟩
  · have hm : rs.getD j 0 ∈ pool := hp.mem_iff.mp (List.mem_append_left _ (gdm hj))
    have hq := hpl _ hm
    exact (hRP j hj).keep (a5.2.2.1 _ (by have := hq.1; omega) (kinds _ hm _ (Or.inl rfl))) (a5.2.2.1 _ (by have := hq.1; omega) (kinds _ hm _ (Or.inr (Or.inl rfl)))) (a5.2.2.1 _ hq.1 (kinds _ hm _ (Or.inr (Or.inr rfl))))
theorem AL.pk {a b c : Nat} {l : List Nat} (h : AL X G a b c l) : ∀ x, (x = a ∨ (x = b ∧ b ≠ xde X)) → gT G x = (1, 0) ∨ (gT G x).1 = 3 := by
  rintro x (e | ⟨e, e2⟩)
  · rw [e]; exact Or.inl h.1
  · rcases h.2.2.2.2.2.2.2.2 with ⟨_, q2, _⟩ | ⟨_, _, q3, _⟩
    · exact absurd q2 e2
    · rw [e, q3]; exact Or.inr rfl
theorem nk {x : Nat × Nat} (h : x = (1, 8) ∨ x = (1, 4) ∨ x = (2, 37) ∨ x = (1, 5)) : ¬ (x = (1, 0) ∨ x.1 = 3) := by
  rcases h with e | e | e | e <;> subst e <;> decide
theorem sp_newReply {Pr : Gt → Prop} (r1 : gH G + 3 ≤ xC X) (r2 : gU G + 42 ≤ xS X) (k : ∀ G', RP G' (gH G) 0 0 [] → gH G' = gH G + 3 → gU G' = gU G + 42 → ch G G' (fun _ => False) → Pr G') : wX7_init X (nO G 8 3) (gH G) Pr := by
  refine ⟨by show gH G + 1 + 1 ≤ _; omega, by show gU G + 3 + 2 ≤ _; omega, ?_⟩
  rintro G1 rfl
  refine ⟨by show gH G + 1 + 1 + 1 ≤ _; omega, by show gU G + 3 + 2 + 37 ≤ _; omega, ?_⟩
  rintro G2 rfl
  have e1 : gH (nO G 8 3) = gH G + 1 := rfl
  have e2 : gH (nO (nO G 8 3) 4 2) = gH G + 2 := rfl
  have k0 : gT (nA (nO (nO G 8 3) 4 2) 37) (gH G) = (1, 8) := by
    show va_up (va_up (va_up _ (gH G) (1, 8)) (gH G + 1) (1, 4)) (gH G + 1 + 1) (2, 37) (gH G) = _
    rw [va_up_ne _ _ (by omega), va_up_ne _ _ (by omega), va_up_self]
  have k1 : gT (nA (nO (nO G 8 3) 4 2) 37) (gH G + 1) = (1, 4) := by
    show va_up (va_up (va_up _ (gH G) (1, 8)) (gH G + 1) (1, 4)) (gH G + 1 + 1) (2, 37) (gH G + 1) = _
    rw [va_up_ne _ _ (by omega), va_up_self]
  have k2 : gT (nA (nO (nO G 8 3) 4 2) 37) (gH G + 2) = (2, 37) := va_up_self _ _ _
  refine ⟨k1, ?_⟩
  rintro G3 rfl
  refine ⟨k1, ?_⟩
  rintro G4 rfl
  refine ⟨k0, ?_⟩
  rintro G5 rfl
  refine ⟨k0, ?_⟩
  rintro G6 rfl
  refine ⟨k0, ?_⟩
  rintro G7 rfl
  refine k _ ⟨k0, ?_, ⟨k1, ?_, k2, ?_, by simp, fun j hj => absurd hj (by simp), fun b hb => absurd hb (by simp)⟩, ?_, ?_⟩ rfl rfl ?_
  · show gR (sR _ 256 (gH G) (some (gH G + 1))) 256 (gH G) = _
    rw [gR_sR, if_pos ⟨rfl, rfl⟩]
  · show gR (sR (sI (sR (nA (nO (nO G 8 3) 4 2) 37) 128 (gH G + 1) (some (gH G + 2))) 129 (gH G + 1) 0) 256 (gH G) (some (gH G + 1))) 128 (gH G + 1) = _
    rw [gR_sR, if_neg (fun z => absurd z.1 (by decide))]
    show gR (sR (nA (nO (nO G 8 3) 4 2) 37) 128 (gH G + 1) (some (gH G + 2))) 128 (gH G + 1) = _
    rw [gR_sR, if_pos ⟨rfl, rfl⟩]
  · rw [gI_sI, if_neg (fun z => absurd z.1 (by decide)), gI_sI, if_neg (fun z => absurd z.1 (by decide))]
    show gI (sI (sR (nA (nO (nO G 8 3) 4 2) 37) 128 (gH G + 1) (some (gH G + 2))) 129 (gH G + 1) 0) 129 (gH G + 1) = _
    rw [gI_sI, if_pos ⟨rfl, rfl⟩]; rfl
  · rw [gI_sI, if_neg (fun z => absurd z.1 (by decide)), gI_sI, if_pos ⟨rfl, rfl⟩]; rfl
  · rw [gI_sI, if_pos ⟨rfl, rfl⟩]; rfl
  · refine cn_sI (cn_sI (cn_sR (cn_sI (cn_sR ((ch.nO.tr ch.nO).tr ch.nA) ?_) ?_) ?_) ?_) ?_
    · show gH G ≤ gH G + 1; omega
    · show gH G ≤ gH G + 1; omega
    · exact Nat.le_refl _
    · exact Nat.le_refl _
    · exact Nat.le_refl _
/-- LN under a change of nothing that it holds -/
theorem LN.keep {G' : Gt} {P : Nat → Prop} (h : LN X sd s G n N z rs sp hd pool L) (c : ch G G' P) (hP : ∀ a, sd a = s → ¬ P a) : LN X sd s G' n N z rs sp hd pool L := by
  obtain ⟨br, cr, bs, cs, ⟨t1, t2, t3, t4, t5, t6, t7⟩, hr, hsp, hne, cbr, cbs, hp, hnd, hpl, hpn, hcr, hcs, hz, hL, hRP⟩ := h
  have en := c.2.2.1 n t4 (hP n t5)
  refine ⟨br, cr, bs, cs, ⟨en.1.trans t1, (en.2.2.2.1 _).trans t2, (en.2.2.2.1 _).trans t3, Nat.lt_of_lt_of_le t4 c.1, t5, t6, t7⟩, hr.keep c (hP _ t6) (fun e => hP _ (cbr e)), hsp.keep c (hP _ t7) (fun e => hP _ (cbs e)), hne, cbr, cbs, hp, hnd, fun y hy => ?_, hpn, hcr, hcs, hz, hL, fun j hj => ?_⟩
  · have q := hpl y hy
    exact q.keep c ⟨hP _ q.2.1, hP _ q.2.2.1, hP _ q.2.2.2.1⟩
  · have hm : rs.getD j 0 ∈ pool := hp.mem_iff.mp (List.mem_append_left _ (gdm hj))
    have q := hpl _ hm
    exact (hRP j hj).keep (c.2.2.1 _ (by have := q.1; omega) (hP _ q.2.1)) (c.2.2.1 _ (by have := q.1; omega) (hP _ q.2.2.1)) (c.2.2.1 _ q.1 (hP _ q.2.2.2.1))
theorem erR_gd {L : List Rp} {i j : Nat} : (L.eraseIdx i).getD j dr = if j < i then L.getD j dr else L.getD (j + 1) dr := by
  simp only [List.getD, List.getElem?_eraseIdx]
  by_cases e : j < i
  · simp [e]
  · simp [e]
/-- what a change of lists alone leaves of the line's replies -/
theorem lk {G' : Gt} {P : Nat → Prop} (c : ch G G' P) (hP : ∀ a, P a → gT G a = (1, 0) ∨ (gT G a).1 = 3) {y : Nat} (q : PL sd s G y) : PL sd s G' y ∧ ∀ {bg cs : Nat} {l : List Nat}, RP G y bg cs l → RP G' y bg cs l := by
  obtain ⟨k1, k2, k3⟩ := q.k
  have p1 : ¬ P y := fun z => nk (Or.inl k1) (hP _ z)
  have p2 : ¬ P (y + 1) := fun z => nk (Or.inr (Or.inl k2)) (hP _ z)
  have p3 : ¬ P (y + 2) := fun z => nk (Or.inr (Or.inr (Or.inl k3))) (hP _ z)
  have hb := q.1
  exact ⟨q.keep c ⟨p1, p2, p3⟩, fun h => h.keep (c.2.2.1 _ (by omega) p1) (c.2.2.1 _ (by omega) p2) (c.2.2.1 _ hb p3)⟩
/-- the k-th reply is taken out of the line into the hand -/
theorem lp_rem {k : Nat} {Pr : Option Nat → Gt → Prop} {Px : String → Gt → Prop} (h : LN X sd s G n N z rs sp hd pool L) (hk : k < rs.length)
    (kk : ∀ G', LN X sd s G' n N z (rs.eraseIdx k) sp (rs.getD k 0 :: hd) pool (L.eraseIdx k) → RP G' (rs.getD k 0) (L.getD k dr).1 (L.getD k dr).2.1 (L.getD k dr).2.2 → ch G G' (fun a => sd a = s ∧ (gT G a = (1, 0) ∨ (gT G a).1 = 3)) → gH G' = gH G → gU G' = gU G → Pr (some (rs.getD k 0)) G') : wJx4a65c_remove_915e3 X G (n + 1) (nI k) Pr Px := by
  obtain ⟨br, cr, bs, cs, ⟨t1, t2, t3, t4, t5, t6, t7⟩, hr, hsp, hne, cbr, cbs, hp, hnd, hpl, hpn, hcr, hcs, hz, hL, hRP⟩ := h
  refine sp_remove hr hk (fun G' a1 a2 a3 a4 => ?_)
  have pk := hr.pk
  have en := a2.2.2.1 n t4 (fun z => nk (Or.inr (Or.inr (Or.inr t1))) (pk _ z))
  have hle : (rs.eraseIdx k).length = rs.length - 1 := List.length_eraseIdx_of_lt hk
  have hle2 : (L.eraseIdx k).length = L.length - 1 := List.length_eraseIdx_of_lt (by omega)
  have mem : ∀ j, j < rs.length → rs.getD j 0 ∈ pool := fun j hj => hp.mem_iff.mp (List.mem_append_left _ (gdm hj))
  refine kk G' ⟨br, cr, bs, cs, ⟨en.1.trans t1, (en.2.2.2.1 _).trans t2, (en.2.2.2.1 _).trans t3, by omega, t5, t6, t7⟩, a1, ?_, hne, cbr, cbs, ?_, hnd, fun y hy => (lk a2 pk (hpl y hy)).1, hpn, hcr, hcs, hz, by omega, fun j hj => ?_⟩ ((lk a2 pk (hpl _ (mem k hk))).2 (hRP k hk)) (a2.mono (fun a _ hh => ⟨?_, pk a hh⟩)) a3 a4
  · refine hsp.keep a2 (fun hh => ?_) (fun hb hh => ?_)
    · rcases hh with e | ⟨e, e2⟩
      · omega
      · rcases hr.2.2.2.2.2.2.2.2 with ⟨_, q2, _⟩ | ⟨_, _, q3, _⟩
        · exact e2 q2
        · rw [← e, hsp.1] at q3; cases q3
    · rcases hh with e | ⟨e, e2⟩
      · have q := hr.1
        rw [← e] at q
        rcases hsp.2.2.2.2.2.2.2.2 with ⟨_, q2, _⟩ | ⟨_, _, q3, _⟩
        · exact hb q2
        · rw [q] at q3; cases q3
      · exact e2 (hne e.symm)
  · refine List.Perm.trans ?_ hp
    have e := er_perm rs k hk
    have e1 : List.Perm (rs.eraseIdx k ++ (sp ++ rs.getD k 0 :: hd)) (rs.getD k 0 :: (rs.eraseIdx k ++ (sp ++ hd))) := by
      rw [← List.append_assoc, ← List.append_assoc]
      exact List.perm_middle
    exact e1.trans (List.Perm.append_right (sp ++ hd) e.symm)
  · rw [hle] at hj
    rw [er_gd, erR_gd]
    by_cases e : j < k
    · rw [if_pos e, if_pos e]
      exact (lk a2 pk (hpl _ (mem j (by omega)))).2 (hRP j (by omega))
    · rw [if_neg e, if_neg e]
      exact (lk a2 pk (hpl _ (mem (j + 1) (by omega)))).2 (hRP (j + 1) (by omega))
  · rcases hh with e | ⟨e, e2⟩
    · rw [e]; exact t6
    · rw [e]; exact cbr e2
theorem sp_freeReply {Pr : Option Nat → Gt → Prop} {Px : String → Gt → Prop} (h : LN X sd s G n N z rs sp hd pool L) (hN : rs.length + hd.length < N) (hs : ∀ a, gH G ≤ a → sd a = s) (r1 : gH G + 3 ≤ xC X) (r2 : gU G + 42 ≤ xS X)
    (kk : ∀ G' y sp' pool' z', LN X sd s G' n N z' rs sp' (y :: hd) pool' L → ch G G' (fun a => sd a = s ∧ (gT G a = (1, 0) ∨ (gT G a).1 = 3)) → cost G G' z z' → Pr (some y) G') : wX4_freeReply X G n Pr Px := by
  obtain ⟨br, cr, bs, cs, ⟨t1, t2, t3, t4, t5, t6, t7⟩, hr, hsp, hne, cbr, cbs, hp, hnd, hpl, hpn, hcr, hcs, hz, hL, hRP⟩ := id h
  have hlen := hp.length_eq
  simp only [List.length_append] at hlen
  refine ⟨t1, n + 2, t3, hsp.1, sp_isEmpty hsp (fun e => ⟨fun z => absurd z (by decide), fun _ => ?_⟩) (fun e => ⟨fun _ => ?_, fun z => absurd rfl z⟩)⟩
  · -- a new one
    subst e
    simp only [List.length_nil] at hlen
    refine ⟨by omega, by omega, ?_⟩
    rintro G1 rfl
    refine sp_newReply r1 r2 (fun G2 g1 g2 g3 g4 => ?_)
    have hk := h.keep g4 (fun _ _ => id)
    obtain ⟨br', cr', bs', cs', u0, ur, us, une, ubr, ubs, up, und, upl, upn, ucr, ucs, uz, uL, uRP⟩ := hk
    refine kk G2 (gH G) [] (gH G :: pool) (cr' + cs' + 3 * (gH G :: pool).length) ⟨br', cr', bs', cs', u0, ur, us, une, ubr, ubs, ?_, ?_, fun y hy => ?_, by simp; omega, ucr, ucs, rfl, uL, uRP⟩ (g4.mono (fun _ _ z => z.elim)) ⟨?_, ?_, ?_⟩
    · exact List.perm_middle.trans (List.Perm.cons _ up)
    · refine List.nodup_cons.mpr ⟨fun hm => ?_, hnd⟩
      have := (hpl _ hm).1
      omega
    · rcases List.mem_cons.mp hy with e | e
      · rw [e]
        exact ⟨by omega, hs _ (by omega), hs _ (by omega), hs _ (by omega), g1.rt⟩
      · exact upl y e
    · rw [uz]; simp; omega
    · rw [uz, g2]; simp; omega
    · rw [uz, g3]; simp; omega
  · have hl : 0 < sp.length := by
      cases sp with
      | nil => exact absurd rfl e
      | cons a t => simp
    have hl5 : sp.length < 2 ^ 31 := by have := hsp.2.2.2.2.2.1; have := hsp.2.2.2.2.2.2.1; omega
    refine ⟨t1, n + 2, t3, t1, n + 2, t3, hsp.1, sp_size hsp ⟨hsp.1, ?_⟩⟩
    rw [show nI sp.length - 1 = nI (sp.length - 1) from n_sub (b := 1) (by omega)]
    refine sp_remove hsp (by omega) (fun G' a1 a2 a3 a4 => ?_)
    have pk := hsp.pk
    have en := a2.2.2.1 n t4 (fun z => nk (Or.inr (Or.inr (Or.inr t1))) (pk _ z))
    have hm : sp.getD (sp.length - 1) 0 ∈ pool := hp.mem_iff.mp (List.mem_append_right _ (List.mem_append_left _ (gdm (by omega))))
    refine ⟨_, rfl, (lk a2 pk (hpl _ hm)).1.2.2.2.2.1, kk G' _ (sp.eraseIdx (sp.length - 1)) pool z ⟨br, cr, bs, cs, ⟨en.1.trans t1, (en.2.2.2.1 _).trans t2, (en.2.2.2.1 _).trans t3, by omega, t5, t6, t7⟩, ?_, a1, hne, cbr, cbs, ?_, hnd, fun y hy => (lk a2 pk (hpl y hy)).1, hpn, hcr, hcs, hz, hL, fun j hj => (lk a2 pk (hpl _ (hp.mem_iff.mp (List.mem_append_left _ (gdm hj))))).2 (hRP j hj)⟩ (a2.mono (fun a _ hh => ⟨?_, pk a hh⟩)) ⟨Nat.le_refl _, by omega, by omega⟩⟩
    · refine hr.keep a2 (fun hh => ?_) (fun hb hh => ?_)
      · rcases hh with e | ⟨e, e2⟩
        · omega
        · rcases hsp.2.2.2.2.2.2.2.2 with ⟨_, q2, _⟩ | ⟨_, _, q3, _⟩
          · exact e2 q2
          · rw [← e, hr.1] at q3; cases q3
      · rcases hh with e | ⟨e, e2⟩
        · have q := hsp.1
          rw [← e] at q
          rcases hr.2.2.2.2.2.2.2.2 with ⟨_, q2, _⟩ | ⟨_, _, q3, _⟩
          · exact hb q2
          · rw [q] at q3; cases q3
        · exact hb (hne e)
    · refine List.Perm.trans ?_ hp
      refine List.Perm.append_left rs ?_
      exact List.perm_middle.trans (List.Perm.append_right hd (er_perm sp _ (by omega)).symm)
    · rcases hh with e | ⟨e, e2⟩
      · rw [e]; exact t7
      · rw [e]; exact cbs e2
end LINE
