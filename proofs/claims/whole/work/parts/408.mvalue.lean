/-! ===== the reference: value, requests, group, frameByte ===== -/
def cntP (p : Nat → Bool) : Nat → Nat
  | 0 => 0
  | n + 1 => cntP p n + if p n then 1 else 0
theorem cntP_le (p : Nat → Bool) : ∀ n, cntP p n ≤ n
  | 0 => Nat.le_refl _
  | n + 1 => by
    have := cntP_le p n
    show cntP p n + (if p n then 1 else 0) ≤ n + 1
    split <;> omega
section MVALUE
variable {X : Xt} {G : Gt} {m : Nat} {ℓ : Nat → Nat} {t : Tt} {S : St}
theorem sm_value {x1 x2 : Int32} {Pr : Int32 → Gt → Prop} (h : ML G m ℓ) (hv : MV (tA t 0) S) (hw : WF S)
    (k1 : ¬ (0 ≤ x1 ∧ x1 < nI (zn S 6)) → Pr 0 (mk G m ℓ (tT t 1)))
    (k2 : ∀ i, x1 = nI i → i < zn S 6 → ¬ (0 ≤ x2 ∧ x2 < nI (zrq S i 3)) → Pr 0 (mk G m ℓ (tT t 1)))
    (k3 : ∀ i j, x1 = nI i → i < zn S 6 → x2 = nI j → j < zrq S i 3 → ¬ (zrq S i 4 = 0 ∧ zrq S i 5 = 1) → Pr 0 (mk G m ℓ (tT t 2)))
    (k4 : ∀ i j, x1 = nI i → i < zn S 6 → x2 = nI j → j < zrq S i 3 → zrq S i 4 = 0 → zrq S i 5 = 1 → Pr (nI (zV S i j)) (mk G m ℓ (uS t 354 0))) : wX10_value X (mk G m ℓ t) m x1 x2 Pr := by
  have h40 : zn S 6 ≤ 40 := hw.1.2.2.2.2.2.2.1
  refine ⟨m_T h, ?_⟩
  rw [ml_sI]
  rintro G1 rfl
  refine ⟨m_T h, sm_isRequest (t := uS t 354 0) h hv h40 (fun i e1 e2 => ⟨fun z => absurd z (by decide), fun _ => ⟨m_T h, ℓ 0, m_R h, s_requestAt.mpr ?_⟩⟩) (fun e => ⟨fun _ => ⟨m_T h, (s_fails h).mpr (k1 e)⟩, fun z => absurd rfl z⟩)⟩
  subst e1
  obtain ⟨i40, w0, w1, w2, w3, w4, w5, w6, w7, w8, w9⟩ := wf_rq hw e2
  have rd : ∀ f, f < 10 → f ≠ 7 → tA (uS t 354 0) 0 (280 + 12 * i + f) = nI (zrq S i f) := fun f h1 h2 => (hv.2.2.2.2.1 i i40).1 f h1 h2
  rw [show (280 : Int32) + 12 * nI i + 3 = nI (280 + 12 * i + 3) from ix3 280 12 3 i]
  refine ⟨m_V1 h, m_in h (by omega), s_in.mpr ?_⟩
  rw [m_A h (by omega), rd 3 (by decide) (by decide), show nI (zrq S i 3) - 1 = nI (zrq S i 3 - 1) from n_sub (b := 1) w4]
  by_cases hx : 0 ≤ x2 ∧ x2 ≤ nI (zrq S i 3 - 1)
  · obtain ⟨j, rfl, _, j3⟩ := i_nat (lo := 0) (by decide) (by omega) hx.1 hx.2
    rw [bI_t hx]
    refine ⟨fun _ => s_requestAt.mpr ?_, fun z => absurd z (by decide)⟩
    rw [show (280 : Int32) + 12 * nI i + 4 = nI (280 + 12 * i + 4) from ix3 280 12 4 i, show (280 : Int32) + 12 * nI i + 5 = nI (280 + 12 * i + 5) from ix3 280 12 5 i, show (760 : Int32) + 16 * nI i + nI j = nI (760 + 16 * i + j) from ix3 760 16 j i]
    refine ⟨m_T h, ℓ 0, m_R h, m_V1 h, m_in h (by omega), ?_⟩
    rw [m_A h (by omega), rd 4 (by decide) (by decide), z0 (by omega)]
    refine ⟨fun z => ⟨m_T h, (s_fails h).mpr (k3 i j rfl e2 rfl (by omega) (fun e => z e.1))⟩, fun z => ⟨m_T h, ℓ 0, m_R h, m_V1 h, m_in h (by omega), ?_⟩⟩
    rw [m_A h (by omega), rd 5 (by decide) (by decide), show nI (zrq S i 5) = 1 ↔ zrq S i 5 = 1 from nI_eq (b := 1) (by omega) (by decide)]
    refine ⟨fun z2 => ⟨m_T h, (s_fails h).mpr (k3 i j rfl e2 rfl (by omega) (fun e => z2 e.2))⟩, fun z2 => ⟨m_T h, ℓ 0, m_R h, m_V1 h, m_in h (by omega), ?_⟩⟩
    rw [m_A h (by omega), show tA (uS t 354 0) 0 (760 + 16 * i + j) = nI (zV S i j) from (hv.2.2.2.2.1 i i40).2.2 j (by omega)]
    exact k4 i j rfl e2 rfl (by omega) z z2
  · rw [bI_f hx]
    refine ⟨fun z => absurd rfl z, fun _ => ⟨m_T h, (s_fails h).mpr (k2 i rfl e2 (fun e => hx ⟨e.1, ?_⟩))⟩⟩
    obtain ⟨j, rfl, _, j3⟩ := i_nat (lo := 0) (by decide) (show zrq S i 3 < 2 ^ 31 by omega) e.1 (Int32.le_of_lt e.2)
    have := (n_lt (by omega) (by omega)).mp e.2
    exact (n_le (by omega) (by omega)).mpr (by omega)
theorem sm_countIn {x1 x2 : Int32} {p : Nat → Bool} {Pr : Int32 → Gt → Prop} (h : ML G m ℓ) (hv : MV (tA t 0) S) (h40 : zn S 6 ≤ 40) (hp : ∀ i, i < zn S 6 → (p i = true ↔ nI (zrq S i 5) = x2 ∧ (x1 < 0 ∨ nI (zrq S i 0) = x1))) (k : Pr (nI (cntP p (zn S 6))) (mk G m ℓ t)) : wX10_countIn X (mk G m ℓ t) m x1 x2 Pr := by
  refine ⟨fun K a0 y1 y2 y3 y4 => a0 = m ∧ K = mk G m ℓ t ∧ y1 = x1 ∧ y2 = x2 ∧ ∃ n, y4 = nI n ∧ n ≤ zn S 6 ∧ y3 = nI (cntP p n), fun _ _ _ _ _ y4 => zn S 6 - y4.toNatClampNeg, ⟨rfl, rfl, rfl, rfl, 0, rfl, by omega, rfl⟩, ?_⟩
  rintro K a0 y1 y2 y3 y4 ⟨rfl, rfl, rfl, rfl, n, rfl, hn, rfl⟩
  refine ⟨m_T h, ℓ 0, m_R h, m_V1 h, m_in h (j := 6) (by decide), ?_⟩
  rw [show gA (mk G a0 ℓ t) (ℓ 0) (6 : Int32).toNatClampNeg = nI (zn S 6) from m_num h hv (by decide) (by decide), n_le (by omega) (by omega)]
  refine ⟨fun z => ?_, fun z => ⟨m_T h, ℓ 0, m_R h, s_requestAt.mpr ?_⟩⟩
  · have : n = zn S 6 := by omega
    subst this; exact k
  · have hn' : n < zn S 6 := by omega
    have dec := dec_up (L := zn S 6) (i := n) hn' (by omega)
    have rd : ∀ f, f < 10 → f ≠ 7 → tA t 0 (280 + 12 * n + f) = nI (zrq S n f) := fun f h1 h2 => (hv.2.2.2.2.1 n (by omega)).1 f h1 h2
    have no : ¬ (nI (zrq S n 5) = y2 ∧ (y1 < 0 ∨ nI (zrq S n 0) = y1)) → ∃ n', nI n + 1 = nI n' ∧ n' ≤ zn S 6 ∧ nI (cntP p n) + 0 = nI (cntP p n') := fun e => ⟨n + 1, nI_1 n, by omega, by
      rw [show nI (cntP p n) + 0 = nI (cntP p n + 0) from n_add (b := 0)]
      show _ = nI (cntP p n + if p n then 1 else 0)
      rw [if_neg (fun q => e ((hp n hn').mp q))]⟩
    have yes : (nI (zrq S n 5) = y2 ∧ (y1 < 0 ∨ nI (zrq S n 0) = y1)) → ∃ n', nI n + 1 = nI n' ∧ n' ≤ zn S 6 ∧ nI (cntP p n) + 1 = nI (cntP p n') := fun e => ⟨n + 1, nI_1 n, by omega, by
      rw [nI_1]
      show _ = nI (cntP p n + if p n then 1 else 0)
      rw [if_pos ((hp n hn').mpr e)]⟩
    rw [show (280 : Int32) + 12 * nI n + 5 = nI (280 + 12 * n + 5) from ix3 280 12 5 n]
    refine ⟨m_V1 h, m_in h (by omega), ?_⟩
    rw [m_A h (by omega), rd 5 (by decide) (by decide)]
    refine ⟨fun z2 => ⟨⟨rfl, rfl, rfl, rfl, no (fun e => z2 e.1)⟩, dec⟩, fun z2 => ⟨fun z3 => ⟨⟨rfl, rfl, rfl, rfl, yes ⟨z2, Or.inl z3⟩⟩, dec⟩, fun z3 => ⟨m_T h, ℓ 0, m_R h, s_requestAt.mpr ?_⟩⟩⟩
    rw [show (280 : Int32) + 12 * nI n = nI (280 + 12 * n) from ix2 280 12 n]
    refine ⟨m_V1 h, m_in h (by omega), ?_⟩
    rw [m_A h (by omega), show tA t 0 (280 + 12 * n) = nI (zrq S n 0) from rd 0 (by decide) (by decide)]
    exact ⟨fun z4 => ⟨⟨rfl, rfl, rfl, rfl, no (fun e => e.2.elim z3 z4)⟩, dec⟩, fun z4 => ⟨⟨rfl, rfl, rfl, rfl, yes ⟨z2, Or.inr z4⟩⟩, dec⟩⟩
theorem sm_requests {x1 : Int32} {Pr : Int32 → Gt → Prop} (h : ML G m ℓ) (hv : MV (tA t 0) S) (hw : WF S)
    (k1 : ¬ (0 ≤ x1 ∧ x1 ≤ 2) → Pr 0 (mk G m ℓ (uS t 354 1)))
    (k3 : ∀ s, x1 = nI s → s ≤ 2 → Pr (nI (cntP (fun i => decide (zrq S i 5 = s)) (zn S 6))) (mk G m ℓ (uS t 354 0))) : wX10_requests X (mk G m ℓ t) m x1 Pr := by
  refine s_in.mpr ?_
  by_cases hx : 0 ≤ x1 ∧ x1 ≤ 2
  · obtain ⟨s, rfl, _, s3⟩ := i_nat (lo := 0) (hi := 2) (by decide) (by decide) hx.1 hx.2
    rw [bI_t hx]
    refine ⟨fun z => absurd z (by decide), fun _ => ⟨m_T h, ?_⟩⟩
    rw [ml_sI]
    rintro G1 rfl
    refine ⟨m_T h, fun z => absurd th z, fun _ => ⟨m_T h, sm_countIn (t := uS t 354 0) h hv hw.1.2.2.2.2.2.2.1 (fun i hi => ?_) (k3 s rfl s3)⟩⟩
    have w5 := (hw.2.2.1.1 i hi).2.2.2.2.2.2.2.2.1
    rw [nI_eq (by omega) (by omega), decide_eq_true_iff]
    exact ⟨fun e => ⟨e, Or.inl (by decide)⟩, fun e => e.1⟩
  · rw [bI_f hx]
    refine ⟨fun _ => ⟨m_T h, ?_⟩, fun z => absurd rfl z⟩
    rw [ml_sI]
    rintro G1 rfl
    refine ⟨m_T h, fun _ => k1 hx, fun z => ?_⟩
    rw [th] at z; exact absurd z (by decide)
theorem sm_requestsOf {x1 x2 : Int32} {Pr : Int32 → Gt → Prop} (h : ML G m ℓ) (hv : MV (tA t 0) S) (hw : WF S)
    (k1 : ¬ ((0 ≤ x1 ∧ x1 ≤ 3) ∧ 0 ≤ x2 ∧ x2 ≤ 2) → Pr 0 (mk G m ℓ (uS t 354 1)))
    (k3 : ∀ c s, x1 = nI c → c ≤ 3 → x2 = nI s → s ≤ 2 → Pr (nI (cntR (zrq S) c s (zn S 6))) (mk G m ℓ (uS t 354 0))) : wX10_requestsOf X (mk G m ℓ t) m x1 x2 Pr := by
  have bad : ¬ ((0 ≤ x1 ∧ x1 ≤ 3) ∧ 0 ≤ x2 ∧ x2 ≤ 2) → wX10_requestsOf_24 X Pr (mk G m ℓ t) m x1 x2 m 1 := by
    intro e
    refine ⟨m_T h, ?_⟩
    rw [ml_sI]
    rintro G1 rfl
    refine ⟨m_T h, fun _ => k1 e, fun z => ?_⟩
    rw [th] at z; exact absurd z (by decide)
  refine s_in.mpr ?_
  by_cases hx : 0 ≤ x1 ∧ x1 ≤ 3
  · obtain ⟨c, rfl, _, c3⟩ := i_nat (lo := 0) (hi := 3) (by decide) (by decide) hx.1 hx.2
    rw [bI_t hx]
    refine ⟨fun z => absurd z (by decide), fun _ => s_in.mpr ?_⟩
    by_cases hx2 : 0 ≤ x2 ∧ x2 ≤ 2
    · obtain ⟨s, rfl, _, s3⟩ := i_nat (lo := 0) (hi := 2) (by decide) (by decide) hx2.1 hx2.2
      rw [bI_t hx2]
      refine ⟨fun z => absurd z (by decide), fun _ => ⟨m_T h, ?_⟩⟩
      rw [ml_sI]
      rintro G1 rfl
      have ec : ∀ n, cntP (fun i => decide (zrq S i 0 = c ∧ zrq S i 5 = s)) n = cntR (zrq S) c s n := by
        intro n
        induction n with
        | zero => rfl
        | succ n ih =>
          show cntP _ n + (if decide (zrq S n 0 = c ∧ zrq S n 5 = s) = true then 1 else 0) = cntR (zrq S) c s n + (if zrq S n 0 = c ∧ zrq S n 5 = s then 1 else 0)
          rw [ih]
          by_cases e : zrq S n 0 = c ∧ zrq S n 5 = s
          · rw [if_pos e, if_pos (decide_eq_true e)]
          · rw [if_neg e, if_neg (by simpa using e)]
      have fin := k3 c s rfl c3 rfl s3
      rw [← ec] at fin
      refine ⟨m_T h, fun z => absurd th z, fun _ => ⟨m_T h, sm_countIn (t := uS t 354 0) h hv hw.1.2.2.2.2.2.2.1 (fun i hi => ?_) fin⟩⟩
      obtain ⟨w0, _, _, _, _, _, _, _, w5, _⟩ := hw.2.2.1.1 i hi
      rw [nI_eq (by omega) (by omega), nI_eq (by omega) (by omega), decide_eq_true_iff]
      exact ⟨fun e => ⟨e.2, Or.inr e.1⟩, fun e => ⟨e.2.elim (fun q => absurd q (n_neg (by omega))) id, e.1⟩⟩
    · rw [bI_f hx2]
      exact ⟨fun _ => bad (fun e => hx2 e.2), fun z => absurd rfl z⟩
  · rw [bI_f hx]
    exact ⟨fun _ => bad (fun e => hx e.1), fun z => absurd rfl z⟩
end MVALUE
