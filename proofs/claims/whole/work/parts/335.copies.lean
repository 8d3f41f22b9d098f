/-! ===== copies ===== -/
section COPIES
variable {X : Xt} {G : Gt}
theorem sp_Rcopy {y y2 bg cs : Nat} {l : List Nat} {Pr : Gt → Prop} (h : RT G y) (h2 : RP G y2 bg cs l) (hd : y + 2 < y2 ∨ y2 + 2 < y) (k : ∀ G', RP G' y bg cs l → cg G G' (fun a => a = y ∨ a = y + 1 ∨ a = y + 2) → Pr G') : wX7_copyFrom X G y y2 Pr := by
  obtain ⟨a1, a2, l0, a3⟩ := h
  obtain ⟨b1, b2, b3, b4, b5⟩ := id h2
  refine ⟨a1, y + 1, a2, b1, y2 + 1, b2, a3.1, sp_Fcopy a3 b3 (fun G1 f1 c1 => ?_) (by omega) (by omega)⟩
  have e := c1.2.2.2.2.2 y (by omega)
  have e2 := c1.2.2.2.2.2 y2 (by omega)
  refine ⟨e2.1.trans b1, e.1.trans a1, ?_⟩
  rintro G2 rfl
  refine ⟨e2.1.trans b1, e.1.trans a1, ?_⟩
  rintro G3 rfl
  refine k _ ⟨e.1.trans a1, (e.2.2.2.1 _).trans a2, ?_, ?_, ?_⟩ ((c1.mono (fun a ha => Or.inr ha)).tr ((cg.sI (Or.inl rfl)).tr (cg.sI (Or.inl rfl))))
  · exact (f1.keep (eqAt.sI (by omega)) (eqAt.sI (by omega))).keep (eqAt.sI (by omega)) (eqAt.sI (by omega))
  · rw [gI_sI, if_neg (fun z => absurd z.1 (by decide)), gI_sI, if_pos ⟨rfl, rfl⟩]
    exact (e2.2.1 _).trans b4
  · rw [gI_sI, if_pos ⟨rfl, rfl⟩, gI_sI, if_neg (fun z => absurd z.1 (by decide))]
    exact (e2.2.1 _).trans b5
theorem cpy0 {f g : Nat → Int32} {n j : Nat} (h : j < n) : va_cpy f g (0 : Int32).toNatClampNeg (0 : Int32).toNatClampNeg n j = f j := by
  show va_cpy f g 0 0 n j = f j
  rw [pk_cpy_in (Nat.zero_le _) (by omega)]
  congr 1; omega
theorem sp_Ccopy {q p : Nat} {cf cv ct : Nat → Nat} {tm : Nat} {Pr : Gt → Prop} (h : CT G q) (h2 : CT G p) (hc : CC G p cf cv ct tm) (hd : q + 2 < p ∨ p + 2 < q) (k : ∀ G', CC G' q cf cv ct tm → cg G G' (fun a => a = q + 1 ∨ a = q + 2) → Pr G') : wX0_copyFrom X G q p Pr := by
  obtain ⟨t1, t2, t3, t4, t5⟩ := h
  obtain ⟨u1, u2, u3, u4, u5⟩ := h2
  refine ⟨u1, p + 1, u2, t1, q + 1, t2, by rw [u4], by rw [t4], by decide, by decide, by decide, by rw [u4]; decide, by rw [t4]; decide, ?_⟩
  rintro G1 rfl
  refine ⟨u1, p + 2, u3, t1, q + 2, t3, by show (gT G (p + 2)).1 = 2; rw [u5], by show (gT G (q + 2)).1 = 2; rw [t5], by decide, by decide, by decide, by show _ ≤ (gT G (p + 2)).2; rw [u5]; decide, by show _ ≤ (gT G (q + 2)).2; rw [t5]; decide, ?_⟩
  rintro G2 rfl
  refine k _ (fun j hj => ?_) ((cg.sA (Or.inl rfl)).tr (cg.sA (Or.inr rfl)))
  simp only [gA_sA', if_neg (show ¬ q + 1 = q + 2 by omega), if_neg (show ¬ q + 2 = q + 1 by omega), if_neg (show ¬ p + 2 = q + 1 by omega), if_true]
  rw [cpy0 (show j < (96 : Int32).toNatClampNeg from hj), cpy0 (show j < (96 : Int32).toNatClampNeg from hj)]
  exact hc j hj
theorem sp_Dcopy {d e : Nat} {rg ro : Nat → Nat} {top dl : Nat} {fl : Fl} {Pr : Gt → Prop} (h : DT G d) (h2 : DT G e) (hc : DC G e rg ro top dl fl) (hd : d + 3 < e ∨ e + 3 < d) (k : ∀ G', DC G' d rg ro top dl fl → cg G G' (fun a => d ≤ a ∧ a ≤ d + 3) → Pr G') : wX2_copyFrom X G d e Pr := by
  obtain ⟨t1, t2, t3, t4, t5, t6, t7⟩ := h
  obtain ⟨u1, u2, u3, u4, u5, u6, u7⟩ := h2
  obtain ⟨c1, c2, c3, c4, c5, c6, c7, c8, c9, c10⟩ := id hc
  refine ⟨u1, e + 1, u2, t1, d + 1, t2, by rw [u5], by rw [t5], by decide, by decide, by decide, by rw [u5]; decide, by rw [t5]; decide, ?_⟩
  rintro G1 rfl
  refine ⟨u1, e + 2, u3, t1, d + 2, t3, by show (gT G (e + 2)).1 = 2; rw [u6], by show (gT G (d + 2)).1 = 2; rw [t6], by decide, by decide, by decide, by show _ ≤ (gT G (e + 2)).2; rw [u6]; decide, by show _ ≤ (gT G (d + 2)).2; rw [t6]; decide, ?_⟩
  rintro G2 rfl
  refine ⟨u1, e + 3, u4, t1, d + 3, t4, by show (gT G (e + 3)).1 = 2; rw [u7], by show (gT G (d + 3)).1 = 2; rw [t7], by decide, by decide, by decide, by show _ ≤ (gT G (e + 3)).2; rw [u7]; decide, by show _ ≤ (gT G (d + 3)).2; rw [t7]; decide, ?_⟩
  rintro G3 rfl
  refine ⟨u1, t1, ?_⟩
  rintro G4 rfl
  refine ⟨u1, t1, ?_⟩
  rintro G5 rfl
  refine ⟨u1, t1, ?_⟩
  rintro G6 rfl
  refine ⟨u1, t1, ?_⟩
  rintro G7 rfl
  refine k _ ⟨fun r hr => ?_, ?_, c3, fun j hj => ?_, c5, ?_, ?_, c8, ?_, c10⟩ ?_
  · show (if d + 1 = d + 3 then _ else if d + 1 = d + 2 then _ else if d + 1 = d + 1 then va_cpy (gA G (e + 1)) (gA G (d + 1)) (0 : Int32).toNatClampNeg (0 : Int32).toNatClampNeg 32 else _) r = _ ∧ _
    rw [if_neg (by omega), if_neg (by omega), if_pos rfl, cpy0 hr]
    exact c1 r hr
  · simp only [gI_sI, if_neg (show ¬ ((99 : Nat) = 102 ∧ d = d) by simp), if_neg (show ¬ ((99 : Nat) = 101 ∧ d = d) by simp), if_neg (show ¬ ((99 : Nat) = 100 ∧ d = d) by simp), and_self, if_true]
    exact c2
  · have hj6 : j < 6 := by omega
    show (if d + 2 = d + 3 then _ else if d + 2 = d + 2 then va_cpy (if e + 2 = d + 1 then _ else gA G (e + 2)) _ (0 : Int32).toNatClampNeg (0 : Int32).toNatClampNeg 6 else _) j = _ ∧ (if d + 3 = d + 3 then va_cpy (if e + 3 = d + 2 then _ else if e + 3 = d + 1 then _ else gA G (e + 3)) _ (0 : Int32).toNatClampNeg (0 : Int32).toNatClampNeg 6 else _) j = _
    rw [if_neg (by omega), if_pos rfl, if_pos rfl, cpy0 hj6, cpy0 hj6, if_neg (by omega), if_neg (by omega), if_neg (by omega)]
    exact c4 j hj
  · simp only [gI_sI, if_neg (show ¬ ((100 : Nat) = 102 ∧ d = d) by simp), if_neg (show ¬ ((100 : Nat) = 101 ∧ d = d) by simp), if_neg (show ¬ ((100 : Nat) = 99 ∧ e = d) by simp), and_self, if_true]
    exact c6
  · simp only [gI_sI, if_neg (show ¬ ((101 : Nat) = 102 ∧ d = d) by simp), if_neg (show ¬ ((101 : Nat) = 100 ∧ e = d) by simp), if_neg (show ¬ ((101 : Nat) = 99 ∧ e = d) by simp), and_self, if_true]
    exact c7
  · simp only [gI_sI, if_neg (show ¬ ((102 : Nat) = 101 ∧ e = d) by simp), if_neg (show ¬ ((102 : Nat) = 100 ∧ e = d) by simp), if_neg (show ¬ ((102 : Nat) = 99 ∧ e = d) by simp), and_self, if_true]
    exact c9
  · exact (cg.sA ⟨by omega, by omega⟩).tr ((cg.sA ⟨by omega, by omega⟩).tr ((cg.sA ⟨by omega, by omega⟩).tr ((cg.sI ⟨by omega, by omega⟩).tr ((cg.sI ⟨by omega, by omega⟩).tr ((cg.sI ⟨by omega, by omega⟩).tr (cg.sI ⟨by omega, by omega⟩))))))
end COPIES
