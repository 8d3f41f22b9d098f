/-! ===== the reference: read, write, request, time, pass ===== -/
section MREAD
variable {X : Xt} {G : Gt} {m : Nat} {ℓ : Nat → Nat} {t : Tt} {S : St}
theorem th {c : Int32} : gI (mk G m ℓ (uS t 354 c)) 354 m = c := by rw [ml_gI, tS_uS, if_pos rfl]
theorem sm_read {x1 x2 x3 x4 : Int32} {Pr : Int32 → Gt → Prop} (h : ML G m ℓ) (hv : MV (tA t 0) S) (hw : WF S)
    (k1 : ¬ ((0 ≤ x1 ∧ x1 ≤ 3) ∧ 1 ≤ x2 ∧ x2 ≤ 3) → Pr 0 (mk G m ℓ (uS t 354 1)))
    (k2 : ∀ c d, x1 = nI c → c ≤ 3 → x2 = nI d → 1 ≤ d → d ≤ 3 → ¬ ((0 ≤ x3 ∧ x3 ≤ 1000) ∧ 1 ≤ x4 ∧ x4 ≤ 16) → Pr 0 (mk G m ℓ (uS t 354 2)))
    (k3 : ∀ c d s w, x1 = nI c → c ≤ 3 → x2 = nI d → 1 ≤ d → d ≤ 3 → x3 = nI s → s ≤ 1000 → x4 = nI w → 1 ≤ w → w ≤ 16 → zn S 6 = 40 → Pr 0 (mk G m ℓ (uS t 354 3)))
    (k4 : ∀ c d s w t', x1 = nI c → c ≤ 3 → x2 = nI d → 1 ≤ d → d ≤ 3 → x3 = nI s → s ≤ 1000 → x4 = nI w → 1 ≤ w → w ≤ 16 → zn S 6 < 40 → MV (tA t' 0) (addS S c d s w 0 0) → kVr (uS t 354 0) t' → Pr (nI (zn S 6)) (mk G m ℓ t')) : wX10_read X (mk G m ℓ t) m x1 x2 x3 x4 Pr := by
  have h40 : zn S 6 ≤ 40 := hw.1.2.2.2.2.2.2.1
  have bad : ¬ ((0 ≤ x3 ∧ x3 ≤ 1000) ∧ 1 ≤ x4 ∧ x4 ≤ 16) → wX10_read_31 X Pr (mk G m ℓ t) m x1 x2 x3 x4 m m x1 x2 0 := by
    intro hb
    refine ⟨m_T h, sm_asks (fl := 0) h hv h40 (by decide) (fun e => ⟨m_T h, ?_⟩) (fun c d e1 e2 e3 e4 e5 _ => ⟨m_T h, ?_⟩) (fun c d _ _ _ _ _ e => absurd e (by decide)) (fun c d _ _ _ _ _ e => absurd e (by decide))⟩
    · rw [ml_sI]
      rintro G1 rfl
      refine ⟨m_T h, fun _ => k1 e, fun z => ?_⟩
      rw [th] at z; exact absurd z (by decide)
    · rw [ml_sI]
      rintro G1 rfl
      refine ⟨m_T h, fun _ => k2 c d e1 e2 e3 e4 e5 hb, fun z => ?_⟩
      rw [th] at z; exact absurd z (by decide)
  refine s_in.mpr ?_
  by_cases hx : 0 ≤ x3 ∧ x3 ≤ 1000
  · obtain ⟨s, rfl, _, s3⟩ := i_nat (lo := 0) (hi := 1000) (by decide) (by decide) hx.1 hx.2
    rw [bI_t hx]
    refine ⟨fun z => absurd z (by decide), fun _ => s_in.mpr ?_⟩
    by_cases hx4 : 1 ≤ x4 ∧ x4 ≤ 16
    · obtain ⟨w, rfl, w1, w3⟩ := i_nat (lo := 1) (hi := 16) (by decide) (by decide) hx4.1 hx4.2
      rw [bI_t hx4]
      refine ⟨fun z => absurd z (by decide), fun _ => ⟨m_T h, sm_asks (fl := 1) h hv h40 (by decide) (fun e => ⟨m_T h, ?_⟩) (fun c d _ _ _ _ _ e => absurd e (by decide)) (fun c d e1 e2 e3 e4 e5 _ e6 => ⟨m_T h, ?_⟩) (fun c d e1 e2 e3 e4 e5 _ e6 => ⟨m_T h, ?_⟩)⟩⟩
      · rw [ml_sI]
        rintro G1 rfl
        refine ⟨m_T h, fun _ => k1 e, fun z => ?_⟩
        rw [th] at z; exact absurd z (by decide)
      · rw [ml_sI]
        rintro G1 rfl
        refine ⟨m_T h, fun _ => k3 c d s w e1 e2 e3 e4 e5 rfl s3 rfl w1 w3 e6, fun z => ?_⟩
        rw [th] at z; exact absurd z (by decide)
      · rw [ml_sI]
        rintro G1 rfl
        refine ⟨m_T h, fun z => absurd th z, fun _ => ⟨m_T h, ?_⟩⟩
        subst e1 e3
        exact sm_makes (t := uS t 354 0) (iw := 0) (v := 0) h hv hw e6 rfl (by decide) (fun t' v' k' => k4 c d s w t' rfl e2 rfl e4 e5 rfl s3 rfl w1 w3 e6 v' k')
    · rw [bI_f hx4]
      exact ⟨fun _ => bad (fun e => hx4 e.2), fun z => absurd rfl z⟩
  · rw [bI_f hx]
    exact ⟨fun _ => bad (fun e => hx e.1), fun z => absurd rfl z⟩
theorem sm_write {x1 x2 x3 x4 : Int32} {Pr : Int32 → Gt → Prop} (h : ML G m ℓ) (hv : MV (tA t 0) S) (hw : WF S)
    (k1 : ¬ ((0 ≤ x1 ∧ x1 ≤ 3) ∧ 1 ≤ x2 ∧ x2 ≤ 3) → Pr 0 (mk G m ℓ (uS t 354 1)))
    (k2 : ∀ c d, x1 = nI c → c ≤ 3 → x2 = nI d → 1 ≤ d → d ≤ 3 → ¬ ((0 ≤ x3 ∧ x3 ≤ 1000) ∧ 0 ≤ x4 ∧ x4 ≤ 65535) → Pr 0 (mk G m ℓ (uS t 354 2)))
    (k3 : ∀ c d s v, x1 = nI c → c ≤ 3 → x2 = nI d → 1 ≤ d → d ≤ 3 → x3 = nI s → s ≤ 1000 → x4 = nI v → v ≤ 65535 → zn S 6 = 40 → Pr 0 (mk G m ℓ (uS t 354 3)))
    (k4 : ∀ c d s v t', x1 = nI c → c ≤ 3 → x2 = nI d → 1 ≤ d → d ≤ 3 → x3 = nI s → s ≤ 1000 → x4 = nI v → v ≤ 65535 → zn S 6 < 40 → MV (tA t' 0) (addS S c d s 1 1 v) → kVr (uS t 354 0) t' → Pr (nI (zn S 6)) (mk G m ℓ t')) : wX10_write X (mk G m ℓ t) m x1 x2 x3 x4 Pr := by
  have h40 : zn S 6 ≤ 40 := hw.1.2.2.2.2.2.2.1
  have bad : ¬ ((0 ≤ x3 ∧ x3 ≤ 1000) ∧ 0 ≤ x4 ∧ x4 ≤ 65535) → wX10_write_31 X Pr (mk G m ℓ t) m x1 x2 x3 x4 m m x1 x2 0 := by
    intro hb
    refine ⟨m_T h, sm_asks (fl := 0) h hv h40 (by decide) (fun e => ⟨m_T h, ?_⟩) (fun c d e1 e2 e3 e4 e5 _ => ⟨m_T h, ?_⟩) (fun c d _ _ _ _ _ e => absurd e (by decide)) (fun c d _ _ _ _ _ e => absurd e (by decide))⟩
    · rw [ml_sI]
      rintro G1 rfl
      refine ⟨m_T h, fun _ => k1 e, fun z => ?_⟩
      rw [th] at z; exact absurd z (by decide)
    · rw [ml_sI]
      rintro G1 rfl
      refine ⟨m_T h, fun _ => k2 c d e1 e2 e3 e4 e5 hb, fun z => ?_⟩
      rw [th] at z; exact absurd z (by decide)
  refine s_in.mpr ?_
  by_cases hx : 0 ≤ x3 ∧ x3 ≤ 1000
  · obtain ⟨s, rfl, _, s3⟩ := i_nat (lo := 0) (hi := 1000) (by decide) (by decide) hx.1 hx.2
    rw [bI_t hx]
    refine ⟨fun z => absurd z (by decide), fun _ => s_in.mpr ?_⟩
    by_cases hx4 : 0 ≤ x4 ∧ x4 ≤ 65535
    · obtain ⟨v, rfl, _, v3⟩ := i_nat (lo := 0) (hi := 65535) (by decide) (by decide) hx4.1 hx4.2
      rw [bI_t hx4]
      refine ⟨fun z => absurd z (by decide), fun _ => ⟨m_T h, sm_asks (fl := 1) h hv h40 (by decide) (fun e => ⟨m_T h, ?_⟩) (fun c d _ _ _ _ _ e => absurd e (by decide)) (fun c d e1 e2 e3 e4 e5 _ e6 => ⟨m_T h, ?_⟩) (fun c d e1 e2 e3 e4 e5 _ e6 => ⟨m_T h, ?_⟩)⟩⟩
      · rw [ml_sI]
        rintro G1 rfl
        refine ⟨m_T h, fun _ => k1 e, fun z => ?_⟩
        rw [th] at z; exact absurd z (by decide)
      · rw [ml_sI]
        rintro G1 rfl
        refine ⟨m_T h, fun _ => k3 c d s v e1 e2 e3 e4 e5 rfl s3 rfl v3 e6, fun z => ?_⟩
        rw [th] at z; exact absurd z (by decide)
      · rw [ml_sI]
        rintro G1 rfl
        refine ⟨m_T h, fun z => absurd th z, fun _ => ⟨m_T h, ?_⟩⟩
        subst e1 e3
        exact sm_makes (t := uS t 354 0) (w := 1) (iw := 1) (v := v) h hv hw e6 rfl (by decide) (fun t' v' k' => k4 c d s v t' rfl e2 rfl e4 e5 rfl s3 rfl v3 e6 v' k')
    · rw [bI_f hx4]
      exact ⟨fun _ => bad (fun e => hx4 e.2), fun z => absurd rfl z⟩
  · rw [bI_f hx]
    exact ⟨fun _ => bad (fun e => hx e.1), fun z => absurd rfl z⟩
theorem sm_time {Pr : Int32 → Gt → Prop} (h : ML G m ℓ) (hv : MV (tA t 0) S) (k : Pr (nI (zn S 0)) (mk G m ℓ (uS t 354 0))) : wX10_time X (mk G m ℓ t) m Pr := by
  refine ⟨m_T h, ?_⟩
  rw [ml_sI]
  rintro G1 rfl
  refine ⟨m_T h, ℓ 0, m_R h, m_V1 h, m_in h (j := 0) (by decide), ?_⟩
  rw [show gA (mk G m ℓ (uS t 354 0)) (ℓ 0) (0 : Int32).toNatClampNeg = nI (zn S 0) from m_num (t := uS t 354 0) h hv (by decide) (by decide)]
  exact k
theorem sm_isRequest {x1 : Int32} {Pr : Int32 → Gt → Prop} (h : ML G m ℓ) (hv : MV (tA t 0) S) (h40 : zn S 6 ≤ 40)
    (y : ∀ i, x1 = nI i → i < zn S 6 → Pr 1 (mk G m ℓ t)) (n : ¬ (0 ≤ x1 ∧ x1 < nI (zn S 6)) → Pr 0 (mk G m ℓ t)) : wX10_isRequest X (mk G m ℓ t) m x1 Pr := by
  refine ⟨m_T h, ℓ 0, m_R h, m_V1 h, m_in h (j := 6) (by decide), s_in.mpr ⟨bI_01 _, ?_⟩⟩
  rw [show gA (mk G m ℓ t) (ℓ 0) (6 : Int32).toNatClampNeg = nI (zn S 6) from m_num h hv (by decide) (by decide)]
  by_cases h0 : zn S 6 = 0
  · have e1 : nI (zn S 6) - 1 = -1 := by rw [h0]; decide
    have nx : ¬ (0 ≤ x1 ∧ x1 ≤ -1) := fun e => absurd (Int32.le_trans e.1 e.2) (by decide)
    rw [e1, bI_f nx]
    refine n (fun e => ?_)
    rw [h0] at e
    exact absurd e.2 (Int32.not_lt.mpr e.1)
  · rw [show nI (zn S 6) - 1 = nI (zn S 6 - 1) from n_sub (b := 1) (by omega)]
    by_cases hx : 0 ≤ x1 ∧ x1 ≤ nI (zn S 6 - 1)
    · obtain ⟨i, rfl, _, i3⟩ := i_nat (lo := 0) (by decide) (by omega) hx.1 hx.2
      rw [bI_t hx]
      exact y i rfl (by omega)
    · rw [bI_f hx]
      refine n (fun e => hx ⟨e.1, ?_⟩)
      obtain ⟨i, rfl, _, i3⟩ := i_nat (lo := 0) (by decide) (show zn S 6 < 2 ^ 31 by omega) e.1 (Int32.le_of_lt e.2)
      have := (n_lt (by omega) (by omega)).mp e.2
      exact (n_le (by omega) (by omega)).mpr (by omega)
end MREAD
