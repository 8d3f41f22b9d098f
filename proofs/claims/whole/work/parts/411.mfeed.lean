/-! ===== the reference: feed, endFrame, verdict, length, checksum ===== -/
def hB (L : Hr) (gap : Nat) : Nat := if hb L ≠ 0 then 1 else if hl L = 0 ∨ gap < 2 then 0 else 1
def hAdd (L : Hr) (x gap : Nat) : Hr := (hl L + 1, hB L gap, c8 (hs L ^^^ nI x), hn L, hvd L, hln L)
def hFd (L : Hr) (x gap : Nat) : Hr := hAdd (if gap < 4 then L else hCl L) x gap
section MFEED
variable {X : Xt} {G : Gt} {m : Nat} {ℓ : Nat → Nat} {t : Tt} {L : Hr}
theorem MH.th0 {c : Int32} (h : MH t L) : MH (uS t 354 c) L := by
  obtain ⟨a1, a2, a3, a4, a5, a6⟩ := h
  exact ⟨by rw [tS_uS, if_neg (by decide)]; exact a1, by rw [tS_uS, if_neg (by decide)]; exact a2, by rw [tS_uS, if_neg (by decide)]; exact a3, by rw [tS_uS, if_neg (by decide)]; exact a4, a5, a6⟩
theorem hCl_wf (h : wfH L) (hn' : hn L + 1 < 2 ^ 20) : wfH (hCl L) := by
  unfold hCl
  split
  · exact h
  · exact ⟨by show 0 < 2 ^ 20; decide, by show 0 ≤ 1; decide, hn', fun _ => rfl⟩
theorem lf_67 {x : Nat} {b : Nat} {Pr : Int32 → Gt → Prop} (h : ML G m ℓ) (hh : MH t L) (hb1 : b ≤ 1) (k : ∀ t', MH t' (hl L + 1, b, c8 (hs L ^^^ nI x), hn L, hvd L, hln L) → kH t t' → Pr (nI (hl L + 1)) (mk G m ℓ t')) : wX10_feed_67 X Pr (mk G m ℓ t) m (nI x) m (nI b) := by
  obtain ⟨a1, a2, a3, a4, a5, a6⟩ := hh
  refine ⟨m_T h, ?_, ?_⟩
  · rcases (show b = 0 ∨ b = 1 by omega) with e | e
    · exact Or.inl (by rw [e]; rfl)
    · exact Or.inr (by rw [e]; rfl)
  rw [ml_sI]
  rintro G1 rfl
  refine ⟨m_T h, sp_stirred ⟨m_T h, ?_⟩⟩
  rw [ml_gI, tS_uS, if_neg (by decide), a3, ml_sI]
  rintro G2 rfl
  refine ⟨m_T h, m_T h, ?_⟩
  rw [ml_gI, tS_uS, if_neg (by decide), tS_uS, if_neg (by decide), a1, nI_1, ml_sI]
  rintro G3 rfl
  refine ⟨m_T h, ?_⟩
  rw [ml_gI, tS_uS, if_pos rfl]
  refine k _ ⟨?_, ?_, ?_, ?_, a5, a6⟩ ⟨fun _ _ _ => rfl, fun f hf => ?_, rfl⟩
  · rw [tS_uS, if_pos rfl]; rfl
  · rw [tS_uS, if_neg (by decide), tS_uS, if_neg (by decide), tS_uS, if_pos rfl]; rfl
  · rw [tS_uS, if_neg (by decide), tS_uS, if_pos rfl]; rfl
  · rw [tS_uS, if_neg (by decide), tS_uS, if_neg (by decide), tS_uS, if_neg (by decide)]; exact a4
  · rw [tS_uS, if_neg (by omega), tS_uS, if_neg (by omega), tS_uS, if_neg (by omega)]
theorem lf_42 {x gap : Nat} {Pr : Int32 → Gt → Prop} (h : ML G m ℓ) (hh : MH t L) (hw : wfH L) (hg : gap < 2 ^ 20) (k : ∀ t', MH t' (hAdd L x gap) → kH t t' → Pr (nI (hl L + 1)) (mk G m ℓ t')) : wX10_feed_42 X Pr (mk G m ℓ t) m (nI x) (nI gap) := by
  obtain ⟨a1, a2, a3, a4, a5, a6⟩ := id hh
  obtain ⟨w1, w2, w3, w4⟩ := id hw
  refine ⟨m_T h, ?_⟩
  rw [ml_gI, ml_gI, a1, a2, z0 (by omega), show nI (hl L) ≤ 0 ↔ hl L ≤ 0 from n_le (b := 0) (by omega) (by decide), show nI gap < 2 ↔ gap < 2 from n_lt (b := 2) (by omega) (by decide)]
  unfold hAdd at k
  refine ⟨fun z => lf_67 (b := 1) h hh (by decide) ?_, fun z => ⟨m_T h, fun z2 => lf_67 (b := 0) h hh (by decide) ?_, fun z2 => ⟨fun z3 => lf_67 (b := 0) h hh (by decide) ?_, fun z3 => lf_67 (b := 1) h hh (by decide) ?_⟩⟩⟩
  · rw [show hB L gap = 1 by unfold hB; rw [if_pos z]] at k; exact k
  · rw [show hB L gap = 0 by unfold hB; rw [if_neg (fun e => e z), if_pos (Or.inl (by omega))]] at k; exact k
  · rw [show hB L gap = 0 by unfold hB; rw [if_neg (fun e => e z), if_pos (Or.inr z3)]] at k; exact k
  · rw [show hB L gap = 1 by unfold hB; rw [if_neg (fun e => e z), if_neg (by omega)]] at k; exact k
theorem sm_feed {x1 x2 : Int32} {Pr : Int32 → Gt → Prop} (h : ML G m ℓ) (hh : MH t L) (hw : wfH L) (hn' : hn L + 1 < 2 ^ 20)
    (k1 : ¬ ((0 ≤ x1 ∧ x1 ≤ 255) ∧ 0 ≤ x2 ∧ x2 ≤ 1000) → Pr 0 (mk G m ℓ (tT t 1)))
    (k3 : ∀ x gap t', x1 = nI x → x ≤ 255 → x2 = nI gap → gap ≤ 1000 → MH t' (hFd L x gap) → kH (uS t 354 0) t' → Pr (nI (hl (hFd L x gap))) (mk G m ℓ t')) : wX10_feed X (mk G m ℓ t) m x1 x2 Pr := by
  refine ⟨m_T h, ?_⟩
  rw [ml_sI]
  rintro G1 rfl
  have hh0 : MH (uS t 354 0) L := hh.th0
  refine s_in.mpr ?_
  by_cases hx : 0 ≤ x1 ∧ x1 ≤ 255
  · obtain ⟨x, rfl, _, x3⟩ := i_nat (lo := 0) (hi := 255) (by decide) (by decide) hx.1 hx.2
    rw [bI_t hx]
    refine ⟨fun z => absurd z (by decide), fun _ => s_in.mpr ?_⟩
    by_cases hx2 : 0 ≤ x2 ∧ x2 ≤ 1000
    · obtain ⟨gap, rfl, _, g3⟩ := i_nat (lo := 0) (hi := 1000) (by decide) (by decide) hx2.1 hx2.2
      rw [bI_t hx2]
      have k3' := k3 x gap
      unfold hFd at k3'
      refine ⟨fun _ => ?_, fun z => absurd z (by decide)⟩
      rw [show nI gap < 4 ↔ gap < 4 from n_lt (b := 4) (by omega) (by decide)]
      refine ⟨fun z => ?_, fun z => ⟨m_T h, sm_endsFrame h hh0 hw (fun t2 h2 c2 => ?_)⟩⟩
      · rw [if_pos z] at k3'
        exact lf_42 h hh0 hw (by omega) (fun t' a b => k3' t' rfl x3 rfl g3 a b)
      · rw [if_neg z] at k3'
        exact lf_42 h h2 (hCl_wf hw hn') (by omega) (fun t' a b => k3' t' rfl x3 rfl g3 a (c2.tr b))
    · rw [bI_f hx2]
      exact ⟨fun z => absurd rfl z, fun _ => ⟨m_T h, (s_fails h).mpr (k1 (fun e => hx2 e.2))⟩⟩
  · rw [bI_f hx]
    exact ⟨fun _ => ⟨m_T h, (s_fails h).mpr (k1 (fun e => hx e.1))⟩, fun z => absurd rfl z⟩
theorem sm_endFrame {Pr : Int32 → Gt → Prop} (h : ML G m ℓ) (hh : MH t L) (hw : wfH L) (k : ∀ t', MH t' (hCl L) → kH (uS t 354 0) t' → Pr (nI (hn (hCl L))) (mk G m ℓ t')) : wX10_endFrame X (mk G m ℓ t) m Pr := by
  refine ⟨m_T h, ?_⟩
  rw [ml_sI]
  rintro G1 rfl
  refine ⟨m_T h, sm_endsFrame h hh.th0 hw (fun t2 h2 c2 => ⟨m_T h, ?_⟩)⟩
  rw [ml_gI, h2.2.2.2.1]
  exact k t2 h2 c2
theorem sm_checksum {Pr : Int32 → Gt → Prop} (h : ML G m ℓ) (hh : MH t L) (k : Pr (hs L) (mk G m ℓ (uS t 354 0))) : wX10_checksum X (mk G m ℓ t) m Pr := by
  refine ⟨m_T h, ?_⟩
  rw [ml_sI]
  rintro G1 rfl
  refine ⟨m_T h, ?_⟩
  rw [ml_gI, (hh.th0 (c := 0)).2.2.1]
  exact k
end MFEED
