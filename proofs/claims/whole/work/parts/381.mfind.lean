/-! ===== the reference: which group is next ===== -/
section MFIND2
variable {X : Xt} {G : Gt} {m : Nat} {ℓ : Nat → Nat} {t : Tt} {S : St}
theorem wf_rq (hw : WF S) {i : Nat} (hi : i < zn S 6) : i < 40 ∧ wfR (zrq S i) := ⟨by have := hw.1.2.2.2.2.2.2.1; omega, hw.2.2.1.1 i hi⟩
theorem sm_overlap {i j : Nat} {Pr : Int32 → Gt → Prop} (h : ML G m ℓ) (hv : MV (tA t 0) S) (hw : WF S) (hi : i < zn S 6) (hj : j < zn S 6) (y : ovl (zrq S) i j → Pr 1 (mk G m ℓ t)) (n : ¬ ovl (zrq S) i j → Pr 0 (mk G m ℓ t)) : wX10_overlap X (mk G m ℓ t) m (nI i) (nI j) Pr := by
  obtain ⟨i40, _, _, _, i3, _, i5, _⟩ := wf_rq hw hi
  obtain ⟨j40, _, _, _, j3, _, j5, _⟩ := wf_rq hw hj
  have ei : (280 : Int32) + 12 * nI i + 2 = nI (280 + 12 * i + 2) := ix3 280 12 2 i
  have ej : (280 : Int32) + 12 * nI j + 2 = nI (280 + 12 * j + 2) := ix3 280 12 2 j
  refine ⟨m_T h, ℓ 0, m_R h, s_requestAt.mpr ?_⟩
  rw [ei]
  refine ⟨m_V1 h, m_in h (by omega), m_T h, sm_end h hv j40 ?_⟩
  rw [m_A h (by omega), (hv.2.2.2.2.1 i i40).1 2 (by decide) (by decide), n_le (by omega) (by omega)]
  refine ⟨fun z => n (fun e => by unfold ovl at e; omega), fun z => ⟨m_T h, ℓ 0, m_R h, s_requestAt.mpr ?_⟩⟩
  rw [ej]
  refine ⟨m_V1 h, m_in h (by omega), m_T h, sm_end h hv i40 ?_⟩
  rw [m_A h (by omega), (hv.2.2.2.2.1 j j40).1 2 (by decide) (by decide), n_le (by omega) (by omega)]
  exact ⟨fun z2 => n (fun e => by unfold ovl at e; omega), fun z2 => y ⟨by omega, by omega⟩⟩
theorem sm_firstWaiting {Pr : Int32 → Gt → Prop} (h : ML G m ℓ) (hv : MV (tA t 0) S) (hw : WF S) (n : zn S 6 ≤ fwN (zrq S) (zn S 6) → Pr (-1) (mk G m ℓ t)) (y : fwN (zrq S) (zn S 6) < zn S 6 → Pr (nI (fwN (zrq S) (zn S 6))) (mk G m ℓ t)) : wX10_firstWaiting X (mk G m ℓ t) m Pr := by
  have h40 : zn S 6 ≤ 40 := hw.1.2.2.2.2.2.2.1
  refine ⟨fun g a0 x1 => g = mk G m ℓ t ∧ a0 = m ∧ ∃ i, x1 = nI i ∧ i ≤ zn S 6 ∧ ∀ j, j < i → zrq S j 5 ≠ 0, fun _ _ x1 => zn S 6 - x1.toNatClampNeg, ⟨rfl, rfl, 0, rfl, by omega, fun j hj => absurd hj (by omega)⟩, ?_⟩
  rintro g a0 x1 ⟨rfl, rfl, i, rfl, hi, hj⟩
  have e6 : gA (mk G a0 ℓ t) (ℓ 0) (6 : Int32).toNatClampNeg = nI (zn S 6) := (m_A h (j := 6) (by decide)).trans (hv.1 6 (by decide) (by decide))
  refine ⟨m_T h, ℓ 0, m_R h, m_V1 h, m_in h (j := 6) (by decide), ?_⟩
  rw [e6]
  refine ⟨fun z => ?_, fun z => ⟨m_T h, ?_⟩⟩
  · have z' : zn S 6 ≤ i := (n_le (by omega) (by omega)).mp z
    have e := fwN_eq (R := zrq S) (n := zn S 6) (i := zn S 6) (Nat.le_refl _) (fun z => absurd z (by omega)) (fun j hj2 => hj j (by omega))
    exact n (by omega)
  · have z' : i < zn S 6 := Nat.lt_of_not_le (fun e => z ((n_le (by omega) (by omega)).mpr e))
    have h5 := (wf_rq hw z').2.2.2.2.2.2.2.2.2.1
    refine sm_isWaiting h hv (by omega) (by omega) (fun q => ⟨fun z => absurd z (by decide), fun _ => ?_⟩) (fun q => ⟨fun _ => ⟨⟨rfl, rfl, i + 1, nI_1 i, by omega, fun j hj2 => ?_⟩, dec_up z' (by omega)⟩, fun z => absurd rfl z⟩)
    · have e := fwN_eq (R := zrq S) (n := zn S 6) (i := i) (by omega) (fun _ => q) hj
      rw [e] at y
      exact y z'
    · by_cases e : j = i
      · rw [e]; exact q
      · exact hj j (by omega)
theorem sm_isFresh {dv r : Nat} {Pr : Int32 → Gt → Prop} (h : ML G m ℓ) (hv : MV (tA t 0) S) (hw : WF S) (ht : zn S 0 < 2 ^ 30) (hd : 1 ≤ dv ∧ dv ≤ 3) (hr : r < 2 ^ 30) (y : frsh S dv r → Pr 1 (mk G m ℓ t)) (n : ¬ frsh S dv r → Pr 0 (mk G m ℓ t)) : wX10_isFresh X (mk G m ℓ t) m (nI dv) (nI r) Pr := by
  have hl : zn S 1 ≤ 10000 := hw.1.1
  refine s_in.mpr ?_
  by_cases hr32 : r < 32
  · have hp := plc_lt hd hr32
    have e1 : bI (0 ≤ nI r ∧ nI r ≤ 31) = 1 := bI_t ⟨nI_pos' (by omega), (n_le (b := 31) (by omega) (by decide)).mpr (by omega)⟩
    have ec : (1400 : Int32) + 3 * (32 * (nI dv - 1) + nI r) = nI (1400 + 3 * plc dv r) := by
      rw [show nI dv - 1 = nI (dv - 1) from n_sub (b := 1) hd.1, show (32 : Int32) * nI (dv - 1) = nI (32 * (dv - 1)) from pk_mul 32 _, n_add, show (3 : Int32) * nI (32 * (dv - 1) + r) = nI (3 * (32 * (dv - 1) + r)) from pk_mul 3 _]
      exact n_add (a := 1400)
    have ec2 : (1400 : Int32) + 3 * (32 * (nI dv - 1) + nI r) + 2 = nI (1400 + 3 * plc dv r + 2) := by rw [ec]; exact n_add (b := 2)
    rw [e1]
    refine ⟨fun _ => s_cacheAt.mpr ?_, fun z => absurd z (by decide)⟩
    rw [ec2, ec]
    obtain ⟨c1, c2, c3⟩ := hv.2.2.2.2.2.1 _ hp
    obtain ⟨w1, w2⟩ := hw.2.2.2.1 (plc dv r)
    refine ⟨m_T h, ℓ 0, m_R h, m_V1 h, m_in h (by omega), ?_⟩
    rw [m_A h (by omega), c1]
    refine ⟨fun z => n (fun e => z (by rw [e.2.1]; rfl)), fun z => ⟨m_T h, ℓ 0, m_R h, m_V1 h, m_in h (j := 0) (by decide), m_T h, ℓ 0, m_R h, m_V1 h, m_in h (by omega), m_T h, ℓ 0, m_R h, m_V1 h, m_in h (j := 1) (by decide), ?_⟩⟩
    have ef : zcf S (plc dv r) = 1 := n_inj (b := 1) (by omega) (by decide) z
    obtain ⟨w3, w4⟩ := w2 ef
    rw [m_A h (by omega), c3, show gA (mk G m ℓ t) (ℓ 0) (0 : Int32).toNatClampNeg = nI (zn S 0) from (m_A h (j := 0) (by decide)).trans (hv.1 0 (by decide) (by decide)), show gA (mk G m ℓ t) (ℓ 0) (1 : Int32).toNatClampNeg = nI (zn S 1) from (m_A h (j := 1) (by decide)).trans (hv.1 1 (by decide) (by decide)), n_sub w4, n_lt (by omega) (by omega)]
    exact ⟨fun z2 => n (fun e => by have := e.2.2; omega), fun z2 => y ⟨hr32, ef, by omega⟩⟩
  · have e0 : bI (0 ≤ nI r ∧ nI r ≤ 31) = 0 := bI_f (fun e => by have := (n_le (b := 31) (by omega) (by decide)).mp e.2; omega)
    rw [e0]
    exact ⟨fun z => absurd rfl z, fun _ => n (fun e => hr32 e.1)⟩
theorem sm_isCached {i : Nat} {Pr : Int32 → Gt → Prop} (h : ML G m ℓ) (hv : MV (tA t 0) S) (hw : WF S) (ht : zn S 0 < 2 ^ 30) (hi : i < zn S 6) (y : isC S i → Pr 1 (mk G m ℓ t)) (n : ¬ isC S i → Pr 0 (mk G m ℓ t)) : wX10_isCached X (mk G m ℓ t) m (nI i) Pr := by
  obtain ⟨i40, w0, w1, w2, w3, w4, w5, w6, w7, w8, _⟩ := wf_rq hw hi
  have rd := (hv.2.2.2.2.1 i i40).1
  have e0 : (280 : Int32) + 12 * nI i = nI (280 + 12 * i) := ix2 280 12 i
  have e1 : nI (280 + 12 * i) + 1 = nI (280 + 12 * i + 1) := n_add (b := 1)
  have e2 : nI (280 + 12 * i) + 2 = nI (280 + 12 * i + 2) := n_add (b := 2)
  have e3 : nI (280 + 12 * i) + 3 = nI (280 + 12 * i + 3) := n_add (b := 3)
  have e4 : nI (280 + 12 * i) + 4 = nI (280 + 12 * i + 4) := n_add (b := 4)
  -- the loop
  have loop : ∀ (b : Nat), b ≤ 1 → (b = 1 ↔ zrq S i 4 = 0) → ∃ (I : Gt → Nat → Int32 → Int32 → Int32 → Prop) (μ : Gt → Nat → Int32 → Int32 → Int32 → Nat), I (mk G m ℓ t) m (nI (280 + 12 * i)) (nI b) (0 : Int32) ∧ ∀ (G : Gt) (a0 : Nat) (x2 : Int32) (x3 : Int32) (x4 : Int32), I G a0 x2 x3 x4 → wX10_isCached_25 X Pr (fun G' a0' x2' x3' x4' => I G' a0' x2' x3' x4' ∧ μ G' a0' x2' x3' x4' < μ G a0 x2 x3 x4) G a0 x2 x3 x4 := by
    intro b hb hb4
    refine ⟨fun g a0 x2 x3 x4 => g = mk G m ℓ t ∧ a0 = m ∧ x2 = nI (280 + 12 * i) ∧ ∃ k c, x4 = nI k ∧ k ≤ zrq S i 3 ∧ x3 = nI c ∧ c ≤ 1 ∧ (c = 1 ↔ zrq S i 4 = 0 ∧ ∀ j, j < k → frsh S (zrq S i 1) (zrq S i 2 + j)), fun _ _ _ _ x4 => zrq S i 3 - x4.toNatClampNeg, ⟨rfl, rfl, rfl, 0, b, rfl, by omega, rfl, hb, hb4.trans ⟨fun e => ⟨e, fun j hj => absurd hj (by omega)⟩, fun e => e.1⟩⟩, ?_⟩
    rintro g a0 x2 x3 x4 ⟨rfl, rfl, rfl, k, c, rfl, hk, rfl, hc, hcc⟩
    unfold wX10_isCached_25
    rw [e1, e2, e3]
    refine ⟨m_T h, ℓ 0, m_R h, m_V1 h, m_in h (by omega), ?_⟩
    rw [m_A h (by omega), rd 3 (by decide) (by decide)]
    refine ⟨fun z => ?_, fun z => ?_⟩
    · have z' : zrq S i 3 ≤ k := (n_le (by omega) (by omega)).mp z
      have ek : k = zrq S i 3 := by omega
      subst ek
      rcases (show c = 0 ∨ c = 1 by omega) with e | e <;> subst e
      · exact ⟨Or.inl rfl, n (fun q => absurd (hcc.mpr q) (by decide))⟩
      · exact ⟨Or.inr rfl, y (hcc.mp rfl)⟩
    · have z' : k < zrq S i 3 := Nat.lt_of_not_le (fun e => z ((n_le (by omega) (by omega)).mpr e))
      have dec := dec_up (L := zrq S i 3) z' (by omega)
      refine ⟨fun z2 => ⟨⟨rfl, rfl, rfl, k + 1, 0, nI_1 k, by omega, rfl, by omega, ?_⟩, dec⟩, fun z2 => ⟨m_T h, ℓ 0, m_R h, m_V1 h, m_in h (by omega), m_T h, ℓ 0, m_R h, m_V1 h, m_in h (by omega), m_T h, ?_⟩⟩
      · have ec : c = 0 := n_inj (b := 0) (by omega) (by decide) z2
        refine ⟨fun e => absurd e (by decide), fun e => ?_⟩
        have := hcc.mpr ⟨e.1, fun j hj => e.2 j (by omega)⟩
        omega
      · have ec : c = 1 := by
          rcases (show c = 0 ∨ c = 1 by omega) with e | e
          · exact absurd (by rw [e]; rfl) z2
          · exact e
        have hcc' := hcc.mp ec
        rw [m_A h (by omega), m_A h (by omega), rd 1 (by decide) (by decide), rd 2 (by decide) (by decide), n_add]
        refine sm_isFresh h hv hw ht ⟨w1, w2⟩ (by omega) (fun f => ⟨fun z => absurd z (by decide), fun _ => ⟨⟨rfl, rfl, rfl, k + 1, 1, nI_1 k, by omega, rfl, by omega, ⟨fun _ => ⟨hcc'.1, fun j hj => ?_⟩, fun _ => rfl⟩⟩, dec⟩⟩) (fun f => ⟨fun _ => ⟨⟨rfl, rfl, rfl, k + 1, 0, nI_1 k, by omega, rfl, by omega, ⟨fun e => absurd e (by decide), fun e => absurd (e.2 k (by omega)) f⟩⟩, dec⟩, fun z => absurd rfl z⟩)
        by_cases e : j = k
        · rw [e]; exact f
        · exact hcc'.2 j (by omega)
  refine s_requestAt.mpr ?_
  rw [e0, e4]
  refine ⟨m_T h, ℓ 0, m_R h, m_V1 h, m_in h (by omega), ?_⟩
  rw [m_A h (by omega), rd 4 (by decide) (by decide)]
  refine ⟨fun z => loop 0 (by decide) ⟨fun e => absurd e (by decide), fun e => absurd (by rw [e]; rfl) z⟩, fun z => loop 1 (by decide) ⟨fun _ => n_inj (b := 0) (by omega) (by decide) z, fun _ => rfl⟩⟩
end MFIND2
