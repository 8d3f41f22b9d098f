/-! ===== Line: earliest, drop, take ===== -/
/-- behind k replies: which began first so far, and the bound -/
def erS (L : List Rp) (u : Nat) : Nat → Option Nat × Nat
  | 0 => (none, u + 1)
  | k + 1 => if (L.getD k dr).1 < (erS L u k).2 then (some k, (L.getD k dr).1) else erS L u k
def erl (L : List Rp) (u : Nat) : Option Nat := (erS L u L.length).1
def oI : Option Nat → Int32
  | none => -1
  | some i => nI i
theorem erS_b {L : List Rp} {u : Nat} : ∀ k, (erS L u k).2 ≤ u + 1
  | 0 => Nat.le_refl _
  | k + 1 => by
    have ih := erS_b (L := L) (u := u) k
    unfold erS
    by_cases e : (L.getD k dr).1 < (erS L u k).2
    · rw [if_pos e]; show (L.getD k dr).1 ≤ u + 1; omega
    · rw [if_neg e]; exact ih
theorem erS_i {L : List Rp} {u : Nat} : ∀ k i, (erS L u k).1 = some i → i < k
  | 0, i, h => by cases h
  | k + 1, i, h => by
    have ih := erS_i (L := L) (u := u) k i
    unfold erS at h
    by_cases e : (L.getD k dr).1 < (erS L u k).2
    · rw [if_pos e] at h
      injection h with h
      omega
    · rw [if_neg e] at h
      have := ih h
      omega
section LINE2
variable {X : Xt} {sd : Nat → Nat} {s : Nat} {G : Gt} {n N z : Nat} {rs sp hd pool : List Nat} {L : List Rp}
theorem gRd {L : List Rp} {k : Nat} (h : k < L.length) : L.getD k dr ∈ L := by
  have e : L.getD k dr = L[k] := by simp [List.getD, h]
  rw [e]
  exact List.getElem_mem h
theorem sp_earliest {u : Nat} {Pr : Int32 → Gt → Prop} {Px : String → Gt → Prop} (h : LN X sd s G n N z rs sp hd pool L) (hB : ∀ r ∈ L, r.1 < 2 ^ 30) (hu : u < 2 ^ 30) (hp : Pr (oI (erl L u)) G) : wX4_earliest X G n (nI u) Pr Px := by
  obtain ⟨br, cr, bs, cs, ⟨t1, t2, t3, t4, t5, t6, t7⟩, hr, hsp, hne, cbr, cbs, hp0, hnd, hpl, hpn, hcr, hcs, hz, hL, hRP⟩ := id h
  have hrl : rs.length < 2 ^ 30 := by have := hr.2.2.2.2.2.1; have := hr.2.2.2.2.2.2.1; omega
  refine ⟨fun g a0 x2 x3 x4 => g = G ∧ a0 = n ∧ ∃ k, k ≤ rs.length ∧ x4 = nI k ∧ x2 = oI (erS L u k).1 ∧ x3 = nI (erS L u k).2, fun _ _ _ _ x4 => rs.length - x4.toNatClampNeg, ⟨rfl, rfl, 0, by omega, rfl, rfl, nI_1 u⟩, ?_⟩
  rintro g a0 x2 x3 x4 ⟨rfl, rfl, k, hk, rfl, rfl, rfl⟩
  have dec : k < rs.length → rs.length - (nI k + 1).toNatClampNeg < rs.length - (nI k).toNatClampNeg := fun hk => by
    rw [nI_1, n_cl (by omega), n_cl (by omega)]; omega
  refine ⟨t1, a0 + 1, t2, hr.1, sp_size hr ⟨fun q => ?_, fun q => ?_⟩⟩
  · have q' : rs.length ≤ k := (n_le (by omega) (by omega)).mp q
    have e : k = L.length := by omega
    subst e
    exact hp
  · have q' : k < rs.length := Nat.lt_of_not_le (fun e => q ((n_le (by omega) (by omega)).mpr e))
    have hrp := hRP k q'
    have hb := hB _ (gRd (k := k) (L := L) (by omega))
    have hbb := erS_b (L := L) (u := u) k
    refine ⟨t1, a0 + 1, t2, hr.1, sp_get hr q' ⟨_, rfl, hrp.1, hrp.1, fun z => ?_, fun z => ?_⟩⟩
    · rw [hrp.2.2.2.1] at z
      have z' := (n_le (by omega) (by omega)).mp z
      have e : erS L u (k + 1) = erS L u k := by
        show (if (L.getD k dr).1 < (erS L u k).2 then _ else _) = _
        rw [if_neg (by omega)]
      exact ⟨⟨rfl, rfl, k + 1, by omega, nI_1 k, by rw [e], by rw [e]⟩, dec q'⟩
    · rw [hrp.2.2.2.1] at z
      have z' : ¬ (erS L u k).2 ≤ (L.getD k dr).1 := fun e => z ((n_le (by omega) (by omega)).mpr e)
      have e : erS L u (k + 1) = (some k, (L.getD k dr).1) := by
        show (if (L.getD k dr).1 < (erS L u k).2 then _ else _) = _
        rw [if_pos (by omega)]
      refine ⟨t1, a0 + 1, t2, hr.1, sp_get hr q' ⟨_, rfl, hrp.1, hrp.1, ⟨rfl, rfl, k + 1, by omega, nI_1 k, by rw [e]; rfl, ?_⟩, dec q'⟩⟩
      rw [e, hrp.2.2.2.1]
/-- the cells of the line's lists -/
def lcs (sd : Nat → Nat) (s : Nat) (G : Gt) (a : Nat) : Prop := sd a = s ∧ gT G a ≠ (1, 8) ∧ gT G a ≠ (1, 4) ∧ gT G a ≠ (2, 37)
theorem lcs_of {a : Nat} (h : sd a = s ∧ (gT G a = (1, 0) ∨ (gT G a).1 = 3)) : lcs sd s G a := by
  refine ⟨h.1, fun e => ?_, fun e => ?_, fun e => ?_⟩
  · exact nk (Or.inl e) h.2
  · exact nk (Or.inr (Or.inl e)) h.2
  · exact nk (Or.inr (Or.inr (Or.inl e))) h.2
theorem lcs_tr {G' G'' : Gt} (h1 : ch G G' (lcs sd s G)) (h2 : ch G' G'' (lcs sd s G')) : ch G G'' (lcs sd s G) := h1.tq h2 (fun a ha z => by
  unfold lcs at z ⊢
  rw [h1.2.1 a ha] at z
  exact z)
theorem cost_tr {G G' G'' : Gt} {z z' z'' : Nat} (h1 : cost G G' z z') (h2 : cost G' G'' z' z'') : cost G G'' z z'' := by
  obtain ⟨a1, a2, a3⟩ := h1
  obtain ⟨b1, b2, b3⟩ := h2
  exact ⟨by omega, by omega, by omega⟩
theorem cost_rf {G : Gt} {z : Nat} : cost G G z z := ⟨Nat.le_refl _, Nat.le_refl _, Nat.le_refl _⟩
end LINE2
