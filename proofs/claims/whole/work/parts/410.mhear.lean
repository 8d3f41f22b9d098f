/-! ===== the reference: the listener ===== -/
/-- length, broken, sum, count, verdicts, lengths -/
abbrev Hr : Type := Nat × Nat × Int32 × Nat × (Nat → Nat) × (Nat → Nat)
def hl (L : Hr) : Nat := L.1
def hb (L : Hr) : Nat := L.2.1
def hs (L : Hr) : Int32 := L.2.2.1
def hn (L : Hr) : Nat := L.2.2.2.1
def hvd (L : Hr) : Nat → Nat := L.2.2.2.2.1
def hln (L : Hr) : Nat → Nat := L.2.2.2.2.2
def hJ (L : Hr) : Nat := if hl L < 4 then 1 else if 30 < hl L then 2 else if hb L ≠ 0 then 3 else if hs L ≠ 0 then 4 else 0
/-- the frame closed -/
def hCl (L : Hr) : Hr := if hl L = 0 then L else (0, 0, 65535, hn L + 1, va_up (hvd L) (hn L % 10) (hJ L), va_up (hln L) (hn L % 10) (hl L))
def MH (t : Tt) (L : Hr) : Prop := tS t 365 = nI (hl L) ∧ tS t 366 = nI (hb L) ∧ tS t 367 = hs L ∧ tS t 370 = nI (hn L) ∧ (∀ j, j < 10 → tA t 16 j = nI (hvd L j)) ∧ (∀ j, j < 10 → tA t 17 j = nI (hln L j))
def wfH (L : Hr) : Prop := hl L < 2 ^ 20 ∧ hb L ≤ 1 ∧ hn L < 2 ^ 20 ∧ (hl L = 0 → hb L = 0)
/-- only the listener may change -/
def kH (t t' : Tt) : Prop := (∀ j, j ≠ 16 → j ≠ 17 → tA t' j = tA t j) ∧ (∀ f, f < 365 → tS t' f = tS t f) ∧ tJ t' = tJ t
theorem kH.rf {t : Tt} : kH t t := ⟨fun _ _ _ => rfl, fun _ _ => rfl, rfl⟩
theorem kH.tr {t t' t'' : Tt} (h : kH t t') (h' : kH t' t'') : kH t t'' := ⟨fun j a b => (h'.1 j a b).trans (h.1 j a b), fun f hf => (h'.2.1 f hf).trans (h.2.1 f hf), h'.2.2.trans h.2.2⟩
section MHEAR
variable {X : Xt} {G : Gt} {m : Nat} {ℓ : Nat → Nat} {t : Tt} {L : Hr}
theorem m_R16 (h : ML G m ℓ) : gR (mk G m ℓ t) 368 m = some (ℓ 16) := h.2.1.2.2.2.2.2.1
theorem m_R17 (h : ML G m ℓ) : gR (mk G m ℓ t) 369 m = some (ℓ 17) := h.2.1.2.2.2.2.2.2
theorem m_T16 (h : ML G m ℓ) : gT (mk G m ℓ t) (ℓ 16) = (2, 10) := h.2.2.1.2.2.2.2.2.1
theorem m_T17 (h : ML G m ℓ) : gT (mk G m ℓ t) (ℓ 17) = (2, 10) := h.2.2.1.2.2.2.2.2.2
theorem lh_56 {v : Nat} {Pr : Gt → Prop} (h : ML G m ℓ) (hh : MH t L) (hw : wfH L) (h0 : hl L ≠ 0) (hv : v = hJ L) (k : ∀ t', MH t' (hCl L) → kH t t' → Pr (mk G m ℓ t')) : wX10_endsFrame_56 X Pr (mk G m ℓ t) m (nI v) := by
  obtain ⟨a1, a2, a3, a4, a5, a6⟩ := hh
  have hn20 := hw.2.2.1
  have er : nI (hn L) - nI (hn L) / 10 * 10 = nI (hn L % 10) := pk_rem (d := 10) (by omega) (by decide) (by decide)
  have hm : hn L % 10 < 10 := Nat.mod_lt _ (by decide)
  unfold wX10_endsFrame_56
  refine ⟨m_T h, ℓ 16, m_R16 h, m_T h, by rw [m_T16 h], ?_⟩
  rw [ml_gI, a4, er, n_cl (by omega), ml_gA16 h, m_T16 h]
  refine ⟨n_in hm (by decide), ?_⟩
  intro G2 e2
  rw [ml_sA16 h] at e2
  subst e2
  refine ⟨m_T h, ℓ 17, m_R17 h, m_T h, m_T h, by rw [m_T17 h], ?_⟩
  rw [ml_gI, ml_gI, tS_uA, tS_uA, a4, a1, er, n_cl (by omega), ml_gA17 h, m_T17 h]
  refine ⟨n_in hm (by decide), ?_⟩
  intro G4 e4
  rw [ml_sA17 h] at e4
  subst e4
  refine ⟨m_T h, m_T h, ?_⟩
  rw [ml_gI, tS_uA, tS_uA, a4, nI_1, ml_sI]
  rintro G5 rfl
  refine ⟨m_T h, ?_⟩
  rw [ml_sI]
  rintro G6 rfl
  refine ⟨m_T h, ?_⟩
  rw [ml_sI]
  rintro G7 rfl
  refine ⟨m_T h, ?_⟩
  rw [ml_sI]
  rintro G8 rfl
  have eC : hCl L = (0, 0, 65535, hn L + 1, va_up (hvd L) (hn L % 10) (hJ L), va_up (hln L) (hn L % 10) (hl L)) := if_neg h0
  have eA : ∀ (t : Tt) (f : Nat) (x : Int32) (j : Nat), tA (uS t f x) j = tA t j := fun _ _ _ _ => rfl
  refine k _ ?_ ⟨fun j q1 q2 => ?_, fun f hf => ?_, rfl⟩
  · rw [eC]
    refine ⟨?_, ?_, ?_, ?_, fun j hj => ?_, fun j hj => ?_⟩
    · simp only [tS_uS, tS_uA]; rfl
    · simp only [tS_uS, tS_uA]; rfl
    · simp only [tS_uS, tS_uA]; rfl
    · simp only [tS_uS, tS_uA]; rfl
    · rw [eA, eA, eA, eA]
      show _ = nI (va_up (hvd L) (hn L % 10) (hJ L) j)
      rw [tA_uA, if_neg (by decide), tA_uA, if_pos rfl]
      by_cases e : j = hn L % 10
      · subst e; rw [pk_us, va_up_self, hv]
      · rw [pk_un e, va_up_ne _ _ e]; exact a5 j hj
    · rw [eA, eA, eA, eA]
      show _ = nI (va_up (hln L) (hn L % 10) (hl L) j)
      rw [tA_uA, if_pos rfl, tA_uA, if_neg (by decide)]
      by_cases e : j = hn L % 10
      · subst e; rw [pk_us, va_up_self]
      · rw [pk_un e, va_up_ne _ _ e]; exact a6 j hj
  · rw [eA, eA, eA, eA, tA_uA, if_neg q2, tA_uA, if_neg q1]
  · rw [tS_uS, if_neg (by omega), tS_uS, if_neg (by omega), tS_uS, if_neg (by omega), tS_uS, if_neg (by omega), tS_uA, tS_uA]
theorem sm_endsFrame {Pr : Gt → Prop} (h : ML G m ℓ) (hh : MH t L) (hw : wfH L) (k : ∀ t', MH t' (hCl L) → kH t t' → Pr (mk G m ℓ t')) : wX10_endsFrame X (mk G m ℓ t) m Pr := by
  obtain ⟨a1, a2, a3, a4, a5, a6⟩ := id hh
  obtain ⟨w1, w2, w3, w4⟩ := id hw
  refine ⟨m_T h, ?_⟩
  rw [ml_gI, ml_gI, ml_gI, a1, a2, a3, z0 (by omega), z0 (by omega), show (4 : Int32) ≤ nI (hl L) ↔ 4 ≤ hl L from n_le (a := 4) (by decide) (by omega), show nI (hl L) ≤ 30 ↔ hl L ≤ 30 from n_le (b := 30) (by omega) (by decide)]
  refine ⟨fun z => ⟨m_T h, fun z4 => ⟨m_T h, fun z30 => ⟨m_T h, fun zb => ⟨m_T h, fun zs => lh_56 (v := 0) h hh hw z ?_ k, fun zs => lh_56 (v := 4) h hh hw z ?_ k⟩, fun zb => lh_56 (v := 3) h hh hw z ?_ k⟩, fun z30 => lh_56 (v := 2) h hh hw z ?_ k⟩, fun z4 => lh_56 (v := 1) h hh hw z ?_ k⟩, fun z => ?_⟩
  · unfold hJ; rw [if_neg (by omega), if_neg (by omega), if_neg (fun e => e zb), if_neg (fun e => e zs)]
  · unfold hJ; rw [if_neg (by omega), if_neg (by omega), if_neg (fun e => e zb), if_pos zs]
  · unfold hJ; rw [if_neg (by omega), if_neg (by omega), if_pos zb]
  · unfold hJ; rw [if_neg (by omega), if_pos (by omega)]
  · unfold hJ; rw [if_pos (by omega)]
  · have eC : hCl L = L := if_pos z
    rw [eC] at k
    exact k t hh kH.rf
end MHEAR
