/-! ===== Listener: close, hear, isKept, placeOf, a new one ===== -/
/-- what the listener may change -/
def pLi (a b : Nat) : Prop := b = a ∨ b = a + 1 ∨ b = a + 2
section LISTEN
variable {X : Xt} {G : Gt} {a : Nat} {L : Hr}
theorem LH.keep {G' : Gt} (h : LH G a (a + 1) (a + 2) L) (e0 : eqAt G G' a) (e1 : eqAt G G' (a + 1)) (e2 : eqAt G G' (a + 2)) : LH G' a (a + 1) (a + 2) L := by
  unfold LH
  rw [e0.1, e0.2.2.2.1, e0.2.2.2.1, e1.1, e2.1, e0.2.1, e0.2.1, e0.2.1, e0.2.1, e1.2.2.2.2.1, e2.2.2.2.2.1]
  exact h
theorem sp_close {Pr : Gt → Prop} (h : LH G a (a + 1) (a + 2) L) (hw : wfH L) (k : ∀ G', LH G' a (a + 1) (a + 2) (hCl L) → cg G G' (pLi a) → Pr G') : wX5_close X G a Pr := by
  obtain ⟨t1, t2, t3, t4, t5, a1, a2, a3, a4, a5, a6⟩ := id h
  obtain ⟨w1, w2, w3, w4⟩ := id hw
  have hm : hn L % 10 < 10 := Nat.mod_lt _ (by decide)
  refine ⟨t1, fun z => ⟨t1, ?_⟩, fun z => ?_⟩
  · have z' : hl L ≠ 0 := fun e => z (by rw [a2, e]; rfl)
    rw [a1]
    refine sp_floorMod (b := 10) (by omega) (by decide) (by decide) ⟨t1, a + 1, t2, t1, sp_judge h hw ⟨by rw [t4], by rw [t4]; exact n_in hm (by decide), ?_⟩⟩
    rw [n_cl (by omega)]
    rintro G1 rfl
    refine ⟨t1, a + 2, t3, t1, by show (gT G (a + 2)).1 = 2; rw [t5], by show vp_in _ (gT G (a + 2)).2; rw [t5]; exact n_in hm (by decide), ?_⟩
    rw [show ∀ g, gI (sA G (a + 1) g) 195 a = nI (hl L) from fun _ => a2]
    rintro G2 rfl
    refine ⟨t1, t1, ?_⟩
    rw [show ∀ g g', gI (sA (sA G (a + 1) g) (a + 2) g') 194 a = nI (hn L) from fun _ _ => a1, nI_1]
    rintro G3 rfl
    refine ⟨t1, ?_⟩
    rintro G4 rfl
    refine ⟨t1, ?_⟩
    rintro G5 rfl
    refine ⟨t1, ?_⟩
    rintro G6 rfl
    have e : hCl L = (0, 0, 65535, hn L + 1, va_up (hvd L) (hn L % 10) (hJ L), va_up (hln L) (hn L % 10) (hl L)) := if_neg z'
    rw [e] at k
    refine k _ ⟨t1, t2, t3, t4, t5, ?_, ?_, ?_, ?_, fun j hj => ?_, fun j hj => ?_⟩ ?_
    · simp [gI_sI, hn]
    · simp [gI_sI, hl]; rfl
    · simp [gI_sI, hs]
    · simp [gI_sI, hb]; rfl
    · show (if a + 1 = a + 2 then _ else if a + 1 = a + 1 then upd (gA G (a + 1)) (hn L % 10) (nI (hJ L)) else gA G (a + 1)) j = nI (va_up (hvd L) (hn L % 10) (hJ L) j)
      rw [if_neg (by omega), if_pos rfl]
      by_cases ej : j = hn L % 10
      · subst ej; rw [pk_us, va_up_self]
      · rw [pk_un ej, va_up_ne _ _ ej]; exact a5 j hj
    · show (if a + 2 = a + 2 then upd (if a + 2 = a + 1 then _ else gA G (a + 2)) (hn L % 10) (nI (hl L)) else _) j = nI (va_up (hln L) (hn L % 10) (hl L) j)
      rw [if_pos rfl, if_neg (by omega)]
      by_cases ej : j = hn L % 10
      · subst ej; rw [pk_us, va_up_self]
      · rw [pk_un ej, va_up_ne _ _ ej]; exact a6 j hj
    · exact (cg.sA (Or.inr (Or.inl rfl))).tr ((cg.sA (Or.inr (Or.inr rfl))).tr ((cg.sI (Or.inl rfl)).tr ((cg.sI (Or.inl rfl)).tr ((cg.sI (Or.inl rfl)).tr (cg.sI (Or.inl rfl))))))
  · have z' : hl L = 0 := by
      rw [a2, z0 (by omega)] at z; exact z
    have e : hCl L = L := if_pos z'
    rw [e] at k
    exact k G h cg.rf
theorem sp_hear29 {x b : Nat} {Pr : Gt → Prop} (h : LH G a (a + 1) (a + 2) L) (hb1 : gI G 197 a = nI b) (k : ∀ G', LH G' a (a + 1) (a + 2) (hl L + 1, b, c8 (hs L ^^^ nI x), hn L, hvd L, hln L) → cg G G' (pLi a) → Pr G') : wX5_hear_29 X Pr G a (nI x) := by
  obtain ⟨t1, t2, t3, t4, t5, a1, a2, a3, a4, a5, a6⟩ := h
  refine ⟨t1, sp_nextSum ⟨t1, ?_⟩⟩
  rw [a3]
  rintro G1 rfl
  refine ⟨t1, t1, ?_⟩
  rw [gI_sI, if_neg (fun z => absurd z.1 (by decide)), a2, nI_1]
  rintro G2 rfl
  refine k _ ⟨t1, t2, t3, t4, t5, ?_, ?_, ?_, ?_, a5, a6⟩ ((cg.sI (Or.inl rfl)).tr (cg.sI (Or.inl rfl)))
  · rw [gI_sI, if_neg (fun z => absurd z.1 (by decide)), gI_sI, if_neg (fun z => absurd z.1 (by decide))]; exact a1
  · rw [gI_sI, if_pos ⟨rfl, rfl⟩]; rfl
  · rw [gI_sI, if_neg (fun z => absurd z.1 (by decide)), gI_sI, if_pos ⟨rfl, rfl⟩]; rfl
  · rw [gI_sI, if_neg (fun z => absurd z.1 (by decide)), gI_sI, if_neg (fun z => absurd z.1 (by decide))]; exact hb1
theorem sp_hear {x gap : Nat} {Pr : Gt → Prop} (h : LH G a (a + 1) (a + 2) L) (hw : wfH L) (hg : gap ≤ 1000) (k : ∀ G', LH G' a (a + 1) (a + 2) (hFd L x gap) → cg G G' (pLi a) → Pr G') : wX5_hear X G a (nI x) (nI gap) Pr := by
  obtain ⟨t1, t2, t3, t4, t5, a1, a2, a3, a4, a5, a6⟩ := id h
  obtain ⟨w1, w2, w3, w4⟩ := id hw
  have l4 : nI gap < 4 ↔ gap < 4 := n_lt (b := 4) (by omega) (by decide)
  have l2 : nI gap < 2 ↔ gap < 2 := n_lt (b := 2) (by omega) (by decide)
  have l0 : gI G 195 a ≤ 0 ↔ hl L = 0 := by
    rw [a2, show nI (hl L) ≤ 0 ↔ hl L ≤ 0 from n_le (b := 0) (by omega) (by decide)]; omega
  unfold wX5_hear
  rw [l4, l2, l0]
  have hb2 : hb L = 0 ∨ hb L = 1 := by omega
  have fin : ∀ b, b = hB L gap → gap < 4 → (∀ G', LH G' a (a + 1) (a + 2) (hl L + 1, b, c8 (hs L ^^^ nI x), hn L, hvd L, hln L) → cg G G' (pLi a) → Pr G') := by
    rintro b rfl q G' q1 q2
    refine k G' ?_ q2
    unfold hFd hAdd
    rw [if_pos q]
    exact q1
  refine ⟨fun z4 => ⟨fun z2 => ?_, fun z2 => ⟨t1, fun zl => ?_, fun zl => ⟨t1, ?_⟩⟩⟩, fun z4 => ⟨t1, sp_close h hw (fun G1 h1 c1 => ?_)⟩⟩
  · refine sp_hear29 h a4 (fin _ ?_ z4)
    unfold hB
    rcases hb2 with e | e
    · rw [if_neg (fun z => z e), if_pos (Or.inr z2)]; exact e
    · rw [if_pos (by omega)]; exact e
  · refine sp_hear29 h a4 (fin _ ?_ z4)
    unfold hB
    rw [w4 zl, if_neg (fun z => z rfl), if_pos (Or.inl zl)]
  · rintro G1 rfl
    have e1 : gI (sI G 197 a 1) 197 a = nI 1 := by rw [gI_sI, if_pos ⟨rfl, rfl⟩]; rfl
    have h1 : LH (sI G 197 a 1) a (a + 1) (a + 2) (hl L, 1, hs L, hn L, hvd L, hln L) := by
      refine ⟨t1, t2, t3, t4, t5, ?_, ?_, ?_, e1, a5, a6⟩
      · rw [gI_sI, if_neg (fun z => absurd z.1 (by decide))]; exact a1
      · rw [gI_sI, if_neg (fun z => absurd z.1 (by decide))]; exact a2
      · rw [gI_sI, if_neg (fun z => absurd z.1 (by decide))]; exact a3
    refine sp_hear29 h1 e1 (fun G2 h2 c2 => fin 1 ?_ z4 G2 h2 ((cg.sI (Or.inl rfl)).tr c2))
    unfold hB
    split
    · rfl
    · rw [if_neg (by omega)]
  · refine sp_hear29 h1 h1.2.2.2.2.2.2.2.2.1 (fun G2 h2 c2 => k G2 ?_ (c1.tr c2))
    unfold hFd hAdd
    rw [if_neg z4]
    have eb : hB (hCl L) gap = hb (hCl L) := by
      unfold hB
      by_cases e : hl L = 0
      · rw [show hCl L = L from if_pos e, w4 e, if_neg (fun z => z rfl), if_pos (Or.inl e)]
      · rw [show hCl L = (0, 0, 65535, hn L + 1, va_up (hvd L) (hn L % 10) (hJ L), va_up (hln L) (hn L % 10) (hl L)) from if_neg e]
        rfl
    rw [eb]
    exact h2
theorem sp_isKept {x1 : Int32} {Pr : Int32 → Gt → Prop} (h : LH G a (a + 1) (a + 2) L) (hw : wfH L) (hx : 0 ≤ x1)
    (n : ¬ (x1 < 10 ∧ x1 < nI (hn L)) → Pr 0 G) (y : ∀ x, x1 = nI x → x < 10 → x < hn L → Pr 1 G) : wX5_isKept X G a x1 Pr := by
  obtain ⟨t1, t2, t3, t4, t5, a1, a2, a3, a4, a5, a6⟩ := h
  obtain ⟨w1, w2, w3, w4⟩ := hw
  refine ⟨fun z => absurd hx (Int32.not_le.mpr z), fun _ => ⟨fun z => n (fun e => absurd z (Int32.not_le.mpr e.1)), fun z => ⟨t1, fun z2 => n (fun e => ?_), fun z2 => ?_⟩⟩⟩
  · rw [a1] at z2
    exact absurd z2 (Int32.not_le.mpr e.2)
  · have z' : x1 ≤ nI 9 := by
      have := Int32.not_le.mp z
      rw [Int32.lt_iff_toInt_lt] at this
      rw [Int32.le_iff_toInt_le]
      have e : (10 : Int32).toInt = 10 := by decide
      have e9 : (nI 9).toInt = 9 := by decide
      omega
    obtain ⟨x, rfl, _, hx9⟩ := i_nat (lo := 0) (hi := 9) (by decide) (by decide) hx z'
    rw [a1, n_le (by omega) (by omega)] at z2
    exact y x rfl (by omega) (by omega)
theorem sp_placeOfL {x : Nat} {Pr : Int32 → Gt → Prop} (h : LH G a (a + 1) (a + 2) L) (hw : wfH L) (hx : x < hn L) (k : Pr (nI ((hn L - 1 - x) % 10)) G) : wX5_placeOf X G a (nI x) Pr := by
  obtain ⟨t1, t2, t3, t4, t5, a1, a2, a3, a4, a5, a6⟩ := h
  obtain ⟨w1, w2, w3, w4⟩ := hw
  refine ⟨t1, ?_⟩
  rw [a1, show nI (hn L) - 1 = nI (hn L - 1) from n_sub (b := 1) (by omega), n_sub (by omega)]
  exact sp_floorMod (b := 10) (by omega) (by decide) (by decide) k
def H0 : Hr := (0, 0, 65535, 0, fun _ => 0, fun _ => 0)
theorem H0_wf : wfH H0 := ⟨by decide, by decide, by decide, fun _ => rfl⟩
end LISTEN
