/-! ===== Line ===== -/
abbrev Rp : Type := Nat × Nat × List Nat
def dr : Rp := (0, 0, [])
def RT (G : Gt) (y : Nat) : Prop := gT G y = (1, 8) ∧ gR G 256 y = some (y + 1) ∧ ∃ l, FR G (y + 1) (y + 2) l
theorem RP.rt {G : Gt} {y bg cs : Nat} {l : List Nat} (h : RP G y bg cs l) : RT G y := ⟨h.1, h.2.1, l, h.2.2.1⟩
def PL (sd : Nat → Nat) (s : Nat) (G : Gt) (y : Nat) : Prop := y + 2 < gH G ∧ sd y = s ∧ sd (y + 1) = s ∧ sd (y + 2) = s ∧ RT G y
theorem PL.keep {sd : Nat → Nat} {s : Nat} {G G' : Gt} {y : Nat} {P : Nat → Prop} (h : PL sd s G y) (c : ch G G' P) (hp : ¬ P y ∧ ¬ P (y + 1) ∧ ¬ P (y + 2)) : PL sd s G' y := by
  obtain ⟨h1, h2, h3, h4, h5, h6, l, h7⟩ := h
  have e0 := c.2.2.1 y (by omega) hp.1
  have e1 := c.2.2.1 (y + 1) (by omega) hp.2.1
  have e2 := c.2.2.1 (y + 2) (by omega) hp.2.2
  exact ⟨Nat.lt_of_lt_of_le h1 c.1, h2, h3, h4, e0.1.trans h5, (e0.2.2.2.1 _).trans h6, l, h7.keep e1 e2⟩
theorem PL.obj {sd : Nat → Nat} {s : Nat} {G : Gt} {y : Nat} (h : PL sd s G y) : y < gH G ∧ (gT G y).1 = 1 ∧ (gT G y).2 < 12 := by
  have := h.2.2.2.2.1
  rw [this]
  exact ⟨by have := h.1; omega, rfl, (by show (8 : Nat) < 12; decide)⟩
/-- kinds of the three cells of a reply -/
theorem PL.k {sd : Nat → Nat} {s : Nat} {G : Gt} {y : Nat} (h : PL sd s G y) : gT G y = (1, 8) ∧ gT G (y + 1) = (1, 4) ∧ gT G (y + 2) = (2, 37) := by
  obtain ⟨_, _, _, _, h5, _, l, h7⟩ := h
  exact ⟨h5, h7.1, h7.2.2.1⟩
theorem er_perm : ∀ (l : List Nat) (k : Nat), k < l.length → List.Perm l (l.getD k 0 :: l.eraseIdx k)
  | [], k, h => absurd h (by simp)
  | a :: l, 0, _ => by simp
  | a :: l, k + 1, h => by
    have ih := er_perm l k (by simpa using h)
    have e : (a :: l).getD (k + 1) 0 = l.getD k 0 := by simp [List.getD]
    rw [e]
    exact (List.Perm.cons a ih).trans (List.Perm.swap _ _ _)
/-- the line at n: lists of sent and spare replies, those in hand, the pool of all; N bounds the pool, z is what it has cost -/
def LN (X : Xt) (sd : Nat → Nat) (s : Nat) (G : Gt) (n N z : Nat) (rs sp hd pool : List Nat) (L : List Rp) : Prop :=
  ∃ br cr bs cs, (gT G n = (1, 5) ∧ gR G 160 n = some (n + 1) ∧ gR G 161 n = some (n + 2) ∧ n < gH G ∧ sd n = s ∧ sd (n + 1) = s ∧ sd (n + 2) = s) ∧
    AL X G (n + 1) br cr rs ∧ AL X G (n + 2) bs cs sp ∧ (br = bs → br = xde X) ∧ (br ≠ xde X → sd br = s) ∧ (bs ≠ xde X → sd bs = s) ∧ List.Perm (rs ++ (sp ++ hd)) pool ∧ pool.Nodup ∧ (∀ y ∈ pool, PL sd s G y) ∧ pool.length ≤ N ∧ cr ≤ 10 + 2 * N ∧ cs ≤ 10 + 2 * N ∧ z = cr + cs + 3 * pool.length ∧ rs.length = L.length ∧ ∀ k, k < rs.length → RP G (rs.getD k 0) (L.getD k dr).1 (L.getD k dr).2.1 (L.getD k dr).2.2
/-- the room's cost of an operation on the line -/
def cost (G G' : Gt) (z z' : Nat) : Prop := z ≤ z' ∧ gH G' + z ≤ gH G + z' ∧ gU G' + 14 * z ≤ gU G + 14 * z'
section LINE
variable {X : Xt} {sd : Nat → Nat} {s : Nat} {G : Gt} {n N z : Nat} {rs sp hd pool : List Nat} {L : List Rp}
theorem sp_recycle {y : Nat} {Pr : Gt → Prop} (h : LN X sd s G n N z rs sp (y :: hd) pool L) (hN : N ≤ 2000) (hx : xde X < gH G) (hs : ∀ a, gH G ≤ a → sd a = s) (r1 : gH G + 1 ≤ xC X) (r2 : gU G + (10 + 2 * N) ≤ xS X)
    (k : ∀ G' z', LN X sd s G' n N z' rs (sp ++ [y]) hd pool L → ch G G' (fun a => sd a = s ∧ gT G a ≠ (1, 8) ∧ gT G a ≠ (1, 4) ∧ gT G a ≠ (2, 37)) → cost G G' z z' → Pr G') : wX4_recycle X G n y Pr := by
  obtain ⟨br, cr, bs, cs, ⟨t1, t2, t3, t4, t5, t6, t7⟩, hr, hsp, hne, cbr, cbs, hp, hnd, hpl, hpn, hcr, hcs, hz, hL, hRP⟩ := h
  have hlen := hp.length_eq
  simp only [List.length_append, List.length_cons] at hlen
  have hy : y ∈ pool := hp.mem_iff.mp (by simp)
  refine ⟨t1, n + 2, t3, hsp.1, sp_add (N := N) hsp (hpl y hy).obj (by omega) hN hcs hx r1 r2 (fun G' b' c' a1 a2 a3 a4 a5 a6 a7 => ?_)⟩
  have kr := hr.2.2.1
  have kinds : ∀ q, q ∈ pool → ∀ a, (a = q ∨ a = q + 1 ∨ a = q + 2) → ¬ (a = n + 2 ∨ (a = bs ∧ bs ≠ xde X)) := by
    intro q hq a ha hh
    obtain ⟨k1, k2, k3⟩ := (hpl q hq).k
    have kk : gT G a = (1, 8) ∨ gT G a = (1, 4) ∨ gT G a = (2, 37) := by
      rcases ha with e | e | e <;> subst e
      · exact Or.inl k1
      · exact Or.inr (Or.inl k2)
      · exact Or.inr (Or.inr k3)
    rcases hh with e | ⟨e, e2⟩
    · rw [e, hsp.1] at kk
      simp at kk
    · rcases hsp.2.2.2.2.2.2.2.2 with ⟨_, q2, _⟩ | ⟨_, _, q3, _⟩
      · exact e2 q2
      · rw [e, q3] at kk
        simp at kk
  have hch : ch G G' (fun a => sd a = s ∧ gT G a ≠ (1, 8) ∧ gT G a ≠ (1, 4) ∧ gT G a ≠ (2, 37)) := a5.mono (fun a ha hh => by
    rcases hh with e | ⟨e, e2⟩
    · rw [e, hsp.1]; exact ⟨t7, by simp, by simp, by simp⟩
    · rcases hsp.2.2.2.2.2.2.2.2 with ⟨_, q2, _⟩ | ⟨_, _, q3, _⟩
      · exact absurd q2 e2
      · rw [e, q3]; exact ⟨cbs e2, by simp, by simp, by simp⟩)
  have en := a5.2.2.1 n t4 (by
    intro hh
    rcases hh with e | ⟨e, e2⟩
    · omega
    · rcases hsp.2.2.2.2.2.2.2.2 with ⟨_, q2, _⟩ | ⟨_, _, q3, _⟩
      · exact e2 q2
      · rw [← e, t1] at q3; cases q3)
  refine k G' (cr + c' + 3 * pool.length) ⟨br, cr, b', c', ⟨en.1.trans t1, (en.2.2.2.1 _).trans t2, (en.2.2.2.1 _).trans t3, Nat.lt_of_lt_of_le t4 a5.1, t5, t6, t7⟩, ?_, a1, ?_, cbr, ?_, ?_, hnd, fun q hq => ?_, hpn, hcr, a3, rfl, hL, fun j hj => ?_⟩ hch ⟨by omega, by omega, by omega⟩
  · refine hr.keep a5 (by
      intro hh
      rcases hh with e | ⟨e, e2⟩
      · omega
      · rcases hsp.2.2.2.2.2.2.2.2 with ⟨_, q2, _⟩ | ⟨_, _, q3, _⟩
        · exact e2 q2
        · rw [← e, hr.1] at q3; cases q3) (fun hb hh => ?_)
    rcases hh with e | ⟨e, e2⟩
    · have := hsp.1
      rw [← e] at this
      rcases hr.2.2.2.2.2.2.2.2 with ⟨_, q2, _⟩ | ⟨_, _, q3, _⟩
      · exact hb q2
      · rw [this] at q3; cases q3
    · exact hb (hne e)
  · intro e
    rcases a4 with e2 | e2
    · exact hne (e.trans e2)
    · omega
  · intro hb
    rcases a4 with e2 | e2
    · rw [e2] at hb ⊢; exact cbs hb
    · exact hs _ e2
  · refine List.Perm.trans ?_ hp
    refine List.Perm.append_left rs ?_
    rw [List.append_assoc]
    exact List.Perm.refl _
  · exact (hpl q hq).keep a5 ⟨kinds q hq _ (Or.inl rfl), kinds q hq _ (Or.inr (Or.inl rfl)), kinds q hq _ (Or.inr (Or.inr rfl))⟩
  · have hm : rs.getD j 0 ∈ pool := hp.mem_iff.mp (List.mem_append_left _ (gdm hj))
    have hq := hpl _ hm
    exact (hRP j hj).keep (a5.2.2.1 _ (by have := hq.1; omega) (kinds _ hm _ (Or.inl rfl))) (a5.2.2.1 _ (by have := hq.1; omega) (kinds _ hm _ (Or.inr (Or.inl rfl)))) (a5.2.2.1 _ hq.1 (kinds _ hm _ (Or.inr (Or.inr rfl))))
end LINE
