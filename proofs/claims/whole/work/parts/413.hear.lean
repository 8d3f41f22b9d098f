/-! ===== Listener: its form, judge ===== -/
/-- the listener at a with verdicts at v and lengths at l shows L -/
def LH (G : Gt) (a v l : Nat) (L : Hr) : Prop := gT G a = (1, 6) ∧ gR G 192 a = some v ∧ gR G 193 a = some l ∧ gT G v = (2, 10) ∧ gT G l = (2, 10) ∧ gI G 194 a = nI (hn L) ∧ gI G 195 a = nI (hl L) ∧ gI G 196 a = hs L ∧ gI G 197 a = nI (hb L) ∧ (∀ j, j < 10 → gA G v j = nI (hvd L j)) ∧ ∀ j, j < 10 → gA G l j = nI (hln L j)
section HEAR
variable {X : Xt} {G : Gt} {a v l : Nat} {L : Hr}
theorem sp_judge {Pr : Int32 → Gt → Prop} (h : LH G a v l L) (hw : wfH L) (k : Pr (nI (hJ L)) G) : wX5_judge X G a Pr := by
  obtain ⟨t1, t2, t3, t4, t5, a1, a2, a3, a4, a5, a6⟩ := h
  obtain ⟨w1, w2, w3, w4⟩ := hw
  refine ⟨t1, ?_⟩
  rw [a2, a3, a4, z0 (by omega), show (4 : Int32) ≤ nI (hl L) ↔ 4 ≤ hl L from n_le (a := 4) (by decide) (by omega), show nI (hl L) ≤ 30 ↔ hl L ≤ 30 from n_le (b := 30) (by omega) (by decide)]
  refine ⟨fun z4 => ⟨t1, fun z30 => ⟨t1, fun zb => ⟨t1, fun zs => ?_, fun zs => ?_⟩, fun zb => ?_⟩, fun z30 => ?_⟩, fun z4 => ?_⟩
  · rw [show hJ L = 4 by unfold hJ; rw [if_neg (by omega), if_neg (by omega), if_neg (fun e => e zb), if_pos zs]] at k; exact k
  · rw [show hJ L = 0 by unfold hJ; rw [if_neg (by omega), if_neg (by omega), if_neg (fun e => e zb), if_neg (fun e => e zs)]] at k; exact k
  · rw [show hJ L = 3 by unfold hJ; rw [if_neg (by omega), if_neg (by omega), if_pos zb]] at k; exact k
  · rw [show hJ L = 2 by unfold hJ; rw [if_neg (by omega), if_pos (by omega)]] at k; exact k
  · rw [show hJ L = 1 by unfold hJ; rw [if_pos (by omega)]] at k; exact k
end HEAR
