/-! ===== Cache: put, forget ===== -/
section CACHE2
variable {X : Xt} {G : Gt} {q : Nat} {cf cv ct : Nat → Nat} {tm : Nat} {dv r : Nat}
def up1 (f : Nat → Nat) (p x : Nat) : Nat → Nat := fun j => if j = p then x else f j
theorem sp_put {v now : Nat} {Pr : Gt → Prop} (h : CT G q) (hc : CC G q cf cv ct now) (hd : 1 ≤ dv ∧ dv ≤ 3) (hr0 : r < 2 ^ 30) (hv : v < 65536)
    (h1 : ∀ G', r < 32 → CC G' q (up1 cf (plc dv r) 1) (up1 cv (plc dv r) v) (up1 ct (plc dv r) now) now → cg G G' (fun a => a = q + 1 ∨ a = q + 2) → Pr G') (h0 : ¬ r < 32 → Pr G) : wX0_put X G q (nI dv) (nI r) (nI v) (nI now) Pr := by
  obtain ⟨t1, t2, t3, t4, t5⟩ := h
  refine sp_placeOf hd hr0 (fun hr => ?_) (fun hr => ⟨fun _ => h0 hr, fun z => absurd (by decide) z⟩)
  have hl := plc_lt hd hr
  refine ⟨fun z => absurd z (n_neg (by omega)), fun _ => ⟨t1, q + 1, t2, by rw [t4], by rw [t4]; exact n_in hl (by decide), ?_⟩⟩
  rw [n_cl (by omega)]
  rintro G1 rfl
  refine ⟨t1, q + 2, t3, by show (gT G (q + 2)).1 = 2; rw [t5], by show vp_in _ (gT G (q + 2)).2; rw [t5]; exact n_in hl (by decide), ?_⟩
  rintro G2 rfl
  refine h1 _ hr (fun p hp => ?_) ((cg.sA (Or.inl rfl)).tr (cg.sA (Or.inr rfl)))
  simp only [gA_sA', if_neg (show ¬ q + 1 = q + 2 by omega), if_neg (show ¬ q + 2 = q + 1 by omega), if_true]
  unfold up1
  by_cases e : p = plc dv r
  · subst e
    rw [pk_us, pk_us, if_pos rfl, if_pos rfl, if_pos rfl]
    exact ⟨fun _ => ⟨rfl, rfl, hv, Nat.le_refl _⟩, fun z => absurd rfl z⟩
  · rw [pk_un e, pk_un e, if_neg e, if_neg e, if_neg e]
    exact hc p hp
theorem sp_forget {Pr : Gt → Prop} (h : CT G q) (hc : CC G q cf cv ct tm) (hd : 1 ≤ dv ∧ dv ≤ 3) (hr0 : r < 2 ^ 30)
    (h1 : ∀ G', r < 32 → CC G' q (up1 cf (plc dv r) 0) cv ct tm → cg G G' (fun a => a = q + 1 ∨ a = q + 2) → Pr G') (h0 : ¬ r < 32 → Pr G) : wX0_forget X G q (nI dv) (nI r) Pr := by
  obtain ⟨t1, t2, t3, t4, t5⟩ := h
  refine ⟨t1, sp_placeOf hd hr0 (fun hr => ?_) (fun hr => ⟨fun _ => h0 hr, fun z => absurd (by decide) z⟩)⟩
  have hl := plc_lt hd hr
  refine ⟨fun z => absurd z (n_neg (by omega)), fun _ => ⟨t1, q + 1, t2, by rw [t4], by rw [t4]; exact n_in hl (by decide), ?_⟩⟩
  rw [n_cl (by omega)]
  rintro G1 rfl
  refine ⟨t1, q + 2, t3, by show (gT G (q + 2)).1 = 2; rw [t5], by show vp_in _ (gT G (q + 2)).2; rw [t5]; exact n_in hl (by decide), ?_⟩
  rintro G2 rfl
  refine h1 _ hr (fun p hp => ?_) ((cg.sA (Or.inl rfl)).tr (cg.sA (Or.inr rfl)))
  simp only [gA_sA', if_neg (show ¬ q + 1 = q + 2 by omega), if_neg (show ¬ q + 2 = q + 1 by omega), if_true]
  unfold up1
  by_cases e : p = plc dv r
  · subst e
    rw [pk_us, pk_us, if_pos rfl]
    exact ⟨fun z => absurd z (by decide), fun _ => rfl⟩
  · rw [pk_un e, pk_un e, if_neg e]
    exact hc p hp
end CACHE2
