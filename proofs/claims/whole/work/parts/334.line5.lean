/-! ===== Line: the reply in hand goes to the line ===== -/
section LINE5
variable {X : Xt} {sd : Nat → Nat} {s : Nat} {G : Gt} {n N z : Nat} {rs sp hd pool : List Nat} {L : List Rp}
theorem sp_send {y : Nat} {r : Rp} {Pr : Int32 → Gt → Prop} (h : LN X sd s G n N z rs sp (y :: hd) pool L) (hy0 : RP G y r.1 r.2.1 r.2.2) (hN : N ≤ 2000) (hs : ∀ a, gH G ≤ a → sd a = s) (hrm : rm X G z N)
    (k : ∀ G' z', LN X sd s G' n N z' (rs ++ [y]) sp hd pool (L ++ [r]) → ch G G' (lcs sd s G) → cost G G' z z' → rm X G' z' N → Pr 1 G') : wJx4a65c_add_9ea2d X G (n + 1) y Pr := by
  have hzz := ln_z h
  have hll := (ln_l h).2
  obtain ⟨br, cr, bs, cs, ⟨t1, t2, t3, t4, t5, t6, t7⟩, hr, hsp, hne, cbr, cbs, hp, hnd, hpl, hpn, hcr, hcs, hz, hL, hRP⟩ := h
  have hy : y ∈ pool := hp.mem_iff.mp (by simp)
  simp only [List.length_cons] at hll
  refine sp_add (N := N) hr (hpl y hy).obj (by omega) hN hcr hrm.2.2 (by have := hrm.1; omega) (by have := hrm.2.1; omega) (fun G' b' c' a1 a2 a3 a4 a5 a6 a7 => ?_)
  have pk := hr.pk
  have en := a5.2.2.1 n t4 (fun z => nk (Or.inr (Or.inr (Or.inr t1))) (pk _ z))
  have hcost : cost G G' z (c' + cs + 3 * pool.length) := ⟨by omega, by omega, by omega⟩
  have mem : ∀ j, j < rs.length → rs.getD j 0 ∈ pool := fun j hj => hp.mem_iff.mp (List.mem_append_left _ (gdm hj))
  refine k G' (c' + cs + 3 * pool.length) ⟨b', c', bs, cs, ⟨en.1.trans t1, (en.2.2.2.1 _).trans t2, (en.2.2.2.1 _).trans t3, Nat.lt_of_lt_of_le t4 a5.1, t5, t6, t7⟩, a1, ?_, ?_, ?_, cbs, ?_, hnd, fun q hq => (lk a5 pk (hpl q hq)).1, hpn, a3, hcs, rfl, by simp [hL], fun j hj => ?_⟩ (a5.mono (fun a _ hh => lcs_of ⟨?_, pk a hh⟩)) hcost (hrm.st hcost a5.1)
  · refine hsp.keep a5 (fun hh => ?_) (fun hb hh => ?_)
    · rcases hh with e | ⟨e, e2⟩
      · omega
      · rcases hr.2.2.2.2.2.2.2.2 with ⟨_, q2, _⟩ | ⟨_, _, q3, _⟩
        · exact e2 q2
        · rw [← e, hsp.1] at q3; cases q3
    · rcases hh with e | ⟨e, e2⟩
      · have q := hr.1
        rw [← e] at q
        rcases hsp.2.2.2.2.2.2.2.2 with ⟨_, q2, _⟩ | ⟨_, _, q3, _⟩
        · exact hb q2
        · rw [q] at q3; cases q3
      · exact e2 (hne e.symm)
  · intro e
    rcases a4 with e2 | e2
    · rw [e2] at e ⊢; exact hne e
    · have := hsp.2.2.1; omega
  · intro hb
    rcases a4 with e2 | e2
    · rw [e2] at hb ⊢; exact cbr hb
    · exact hs _ e2
  · refine List.Perm.trans ?_ hp
    rw [List.append_assoc]
    refine List.Perm.append_left rs ?_
    exact (show List.Perm (y :: (sp ++ hd)) (sp ++ y :: hd) from List.perm_middle.symm)
  · have hj' : j < rs.length + 1 := by simpa using hj
    by_cases e : j = rs.length
    · subst e
      rw [gd_eq]
      have e2 : (L ++ [r]).getD rs.length dr = r := by simp [List.getD, hL]
      rw [e2]
      exact (lk a5 pk (hpl y hy)).2 hy0
    · rw [gd_lt (by omega)]
      have e2 : (L ++ [r]).getD j dr = L.getD j dr := by simp [List.getD, List.getElem?_append_left (show j < L.length by omega)]
      rw [e2]
      exact (lk a5 pk (hpl _ (mem j (by omega)))).2 (hRP j (by omega))
  · rcases hh with e | ⟨e, e2⟩
    · rw [e]; exact t6
    · rw [e]; exact cbr e2
/-- the reply in hand may be changed: its three cells are nobody else's -/
theorem lp_hand {y : Nat} {G' : Gt} (h : LN X sd s G n N z rs sp (y :: hd) pool L) (c : ch G G' (fun a => a = y ∨ a = y + 1 ∨ a = y + 2 ∨ sd a ≠ s)) (hrt : RT G' y) : LN X sd s G' n N z rs sp (y :: hd) pool L := by
  obtain ⟨br, cr, bs, cs, ⟨t1, t2, t3, t4, t5, t6, t7⟩, hr, hsp, hne, cbr, cbs, hp, hnd, hpl, hpn, hcr, hcs, hz, hL, hRP⟩ := h
  have hy : y ∈ pool := hp.mem_iff.mp (by simp)
  have py := hpl y hy
  obtain ⟨k1, k2, k3⟩ := py.k
  -- a cell of another kind
  have ot : ∀ a, sd a = s → (gT G a = (1, 0) ∨ (gT G a).1 = 3 ∨ gT G a = (1, 5)) → ¬ (a = y ∨ a = y + 1 ∨ a = y + 2 ∨ sd a ≠ s) := by
    intro a ha hk hh
    rcases hh with e | e | e | e
    · rw [e, k1] at hk; simp at hk
    · rw [e, k2] at hk; simp at hk
    · rw [e, k3] at hk; simp at hk
    · exact e ha
  have otp : ∀ q, q ∈ pool → q ≠ y → ¬ (q = y ∨ q = y + 1 ∨ q = y + 2 ∨ sd q ≠ s) ∧ ¬ (q + 1 = y ∨ q + 1 = y + 1 ∨ q + 1 = y + 2 ∨ sd (q + 1) ≠ s) ∧ ¬ (q + 2 = y ∨ q + 2 = y + 1 ∨ q + 2 = y + 2 ∨ sd (q + 2) ≠ s) := by
    intro q hq hqy
    have pq := hpl q hq
    obtain ⟨q1, q2, q3⟩ := pq.k
    refine ⟨fun hh => ?_, fun hh => ?_, fun hh => ?_⟩
    · rcases hh with e | e | e | e
      · exact hqy e
      · rw [e, k2] at q1; cases q1
      · rw [e, k3] at q1; cases q1
      · exact e pq.2.1
    · rcases hh with e | e | e | e
      · rw [e, k1] at q2; cases q2
      · exact hqy (by omega)
      · rw [e, k3] at q2; cases q2
      · exact e pq.2.2.1
    · rcases hh with e | e | e | e
      · rw [e, k1] at q3; cases q3
      · rw [e, k2] at q3; cases q3
      · exact hqy (by omega)
      · exact e pq.2.2.2.1
  have en := c.2.2.1 n t4 (ot n t5 (Or.inr (Or.inr t1)))
  have row : ∀ {a b c' : Nat} {l : List Nat}, AL X G a b c' l → (b ≠ xde X → sd b = s) → b ≠ xde X → ¬ (b = y ∨ b = y + 1 ∨ b = y + 2 ∨ sd b ≠ s) := by
    intro a b c' l ha hb hbx
    refine ot b (hb hbx) ?_
    rcases ha.2.2.2.2.2.2.2.2 with ⟨_, q2, _⟩ | ⟨_, _, q3, _⟩
    · exact absurd q2 hbx
    · rw [q3]; exact Or.inr (Or.inl rfl)
  refine ⟨br, cr, bs, cs, ⟨en.1.trans t1, (en.2.2.2.1 _).trans t2, (en.2.2.2.1 _).trans t3, Nat.lt_of_lt_of_le t4 c.1, t5, t6, t7⟩, hr.keep c (ot _ t6 (Or.inl hr.1)) (row hr cbr), hsp.keep c (ot _ t7 (Or.inl hsp.1)) (row hsp cbs), hne, cbr, cbs, hp, hnd, fun q hq => ?_, hpn, hcr, hcs, hz, hL, fun j hj => ?_⟩
  · by_cases e : q = y
    · rw [e]
      exact ⟨Nat.lt_of_lt_of_le py.1 c.1, py.2.1, py.2.2.1, py.2.2.2.1, hrt⟩
    · exact (hpl q hq).keep c (otp q hq e)
  · have hm : rs.getD j 0 ∈ pool := hp.mem_iff.mp (List.mem_append_left _ (gdm hj))
    have hn2 : rs.getD j 0 ≠ y := by
      intro e
      have hnd2 := (hp.nodup_iff).mpr hnd
      have q := List.nodup_append.mp hnd2
      exact q.2.2 _ (gdm hj) y (by simp) e
    have o := otp _ hm hn2
    have q := hpl _ hm
    exact (hRP j hj).keep (c.2.2.1 _ (by have := q.1; omega) o.1) (c.2.2.1 _ (by have := q.1; omega) o.2.1) (c.2.2.1 _ q.1 o.2.2)
end LINE5
