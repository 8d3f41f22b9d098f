/-! ===== the reference: the frame of a group; the device's code, reply, deed ===== -/
section MGETS
variable {X : Xt} {G : Gt} {m : Nat} {ℓ : Nat → Nat} {t : Tt} {S : St} {g : Gp}
theorem sm_frames {Pr : Gt → Prop} (h : ML G m ℓ) (hv : MV (tA t 0) S) (hw : WF S) (ho : GO S g) (hg : MGs t S g) (k : ∀ t', MF t' (gfb S g) → MWs t' S g → kWr t t' → Pr (mk G m ℓ t')) : wX10_frames X (mk G m ℓ t) m Pr := by
  obtain ⟨o1, o2, o3, o4, o5, o6, o7, o8, o9⟩ := id ho
  obtain ⟨q40, w0, w1, w2, w3, w4, w5, w6, w7, w8, _⟩ := wf_rq hw o9
  have h40 : zn S 6 ≤ 40 := hw.1.2.2.2.2.2.2.1
  have hgh : ghi g = glo g + gwd g := by unfold gwd; omega
  have fin : ∀ T, kWr t T → MWs T S g → wX10_frames_113 X Pr (mk G m ℓ T) m := fun T cT hT => sm_fr113 h hw ho (hg.w cT) hT (fun t' f' c' => k t' f' (fun hb j hj => by rw [c'.1 11 (by decide)]; exact hT hb j hj) (cT.tr c'.w))
  refine ⟨m_T h, ?_⟩
  rw [ml_gI, hg.2.2.2.2.1]
  refine ⟨fun g' a0 x1 => a0 = m ∧ ∃ i T, g' = mk G m ℓ T ∧ x1 = nI (glo g + i) ∧ i ≤ gwd g ∧ kWr t T ∧ (i = 0 ∨ zrq S (gq g) 4 = 1) ∧ (∀ j, j < i → tA T 11 j = nI (gwr S g j)), fun _ _ x1 => ghi g - x1.toNatClampNeg, ⟨rfl, 0, t, rfl, rfl, by omega, kWr.rf, Or.inl rfl, fun j hj => absurd hj (by omega)⟩, ?_⟩
  rintro g' a0 x1 ⟨rfl, i, T, rfl, rfl, hi, cT, hi4, hj⟩
  obtain ⟨g1, g2, g3, g4, g5, g6⟩ := hg.w cT
  unfold wX10_frames_5
  rw [ml_gI, ml_gI, ml_gI, g6, g4, g2, n_le (by omega) (by omega)]
  refine ⟨m_T h, fun z => fin T cT (fun _ j hj2 => hj j (by omega)), fun z => ⟨m_T h, fun z2 => ?_, fun z2 => ⟨m_T h, ?_⟩⟩⟩
  · have e4 : zrq S (gq g) 4 = 0 := n_inj (b := 0) (by omega) (by decide) z2
    exact fin T cT (fun hb => by have := gw_iff.mp hb; omega)
  · have e4 : zrq S (gq g) 4 = 1 := by
      rcases (show zrq S (gq g) 4 = 0 ∨ zrq S (gq g) 4 = 1 by omega) with e | e
      · exact absurd (by rw [e]; rfl) z2
      · exact e
    rw [if_pos e4] at o4
    have hw8 : gwd g ≤ 8 := o4
    have hiw : i < gwd g := by omega
    -- the requests of the group
    refine ⟨fun g' a0' x1 x2 => a0' = a0 ∧ x1 = nI (glo g + i) ∧ ∃ n T', g' = mk G a0 ℓ T' ∧ x2 = nI (gq g + n) ∧ gq g + n ≤ zn S 6 ∧ kWr t T' ∧ (∀ j, j < i → tA T' 11 j = nI (gwr S g j)) ∧ ((∃ v, gq g ≤ v ∧ v < gq g + n ∧ mb (gM g) v = true ∧ zrq S v 2 = glo g + i) → tA T' 11 i = nI (wvk (zrq S) (gM g) (gq g) (glo g + i) n)), fun _ _ _ x2 => zn S 6 - x2.toNatClampNeg, ⟨rfl, rfl, 0, T, rfl, rfl, by omega, cT, hj, fun ⟨v, v1, v2, _⟩ => absurd v2 (by omega)⟩, ?_⟩
    rintro g' a0' x1 x2 ⟨rfl, rfl, n, T', rfl, rfl, hn, cT', hj', hh'⟩
    obtain ⟨g1, g2, g3, g4, g5, g6⟩ := hg.w cT'
    have hv' : MV (tA T' 0) S := by rw [cT'.1 0 (by decide) (by decide)]; exact hv
    have e6 : gA (mk G a0' ℓ T') (ℓ 0) (6 : Int32).toNatClampNeg = nI (zn S 6) := (m_A h (j := 6) (by decide)).trans (hv'.1 6 (by decide) (by decide))
    unfold wX10_frames_25
    rw [ml_gI, g5, n_sub (show glo g ≤ glo g + i by omega), show glo g + i - glo g = i by omega, ml_gJ, g1]
    refine ⟨m_T h, ℓ 0, m_R h, m_V1 h, m_in h (j := 6) (by decide), ?_⟩
    rw [e6]
    refine ⟨fun z3 => ⟨⟨rfl, i + 1, T', rfl, nI_1 _, by omega, cT', Or.inr e4, fun j hj2 => ?_⟩, dec_up (by omega) (by omega)⟩, fun z3 => ?_⟩
    · have z4 : zn S 6 ≤ gq g + n := (n_le (by omega) (by omega)).mp z3
      by_cases e : j = i
      · subst e
        obtain ⟨v, v1, v2⟩ := o7 e4 (glo g + j) (by omega) (by omega)
        obtain ⟨u1', u2, _⟩ := o6 v v1
        rw [hh' ⟨v, u1', by omega, v1, v2⟩]
        show _ = nI (wvk (zrq S) (gM g) (gq g) (glo g + j) (zn S 6 - gq g))
        rw [show n = zn S 6 - gq g by omega]
      · exact hj' j (by omega)
    · have z4 : gq g + n < zn S 6 := Nat.lt_of_not_le (fun e => z3 ((n_le (by omega) (by omega)).mpr e))
      obtain ⟨i40, _, _, _, i3, _, i5, _, _, _, _, i9⟩ := wf_rq hw z4
      have rdi := (hv'.2.2.2.2.1 (gq g + n) i40).1
      have f2 : (280 : Int32) + 12 * nI (gq g + n) + 2 = nI (280 + 12 * (gq g + n) + 2) := ix3 280 12 2 _
      have f9 : (280 : Int32) + 12 * nI (gq g + n) + 9 = nI (280 + 12 * (gq g + n) + 9) := ix3 280 12 9 _
      have dec := dec_up (L := zn S 6) z4 (by omega)
      have ain : vp_in (nI i) (gT (mk G a0' ℓ T') (ℓ 11)).2 := by rw [m_W h]; exact n_in (show i < 16 by omega) (by decide)
      have a11 : (gT (mk G a0' ℓ T') (ℓ 11)).1 = 2 := by rw [m_W h]
      have cn : ∀ (x : Int32), kWr t (uA T' 11 (upd (tA T' 11) i x)) := fun x => cT'.tr ⟨fun j h1 h2 => by rw [tA_uA, if_neg h2], fun _ _ => rfl, rfl⟩
      have jn : ∀ (x : Int32) j, j < i → tA (uA T' 11 (upd (tA T' 11) i x)) 11 j = nI (gwr S g j) := fun x j hj2 => by rw [tA_uA, if_pos rfl, pk_un (by omega)]; exact hj' j hj2
      have no : ¬ (mb (gM g) (gq g + n) = true ∧ zrq S (gq g + n) 2 = glo g + i) → ((∃ v, gq g ≤ v ∧ v < gq g + (n + 1) ∧ mb (gM g) v = true ∧ zrq S v 2 = glo g + i) → tA (uA T' 11 (upd (tA T' 11) i (tA T' 11 i))) 11 i = nI (wvk (zrq S) (gM g) (gq g) (glo g + i) (n + 1))) := fun hno ⟨v, v1, v2, v3, v4⟩ => by
        rw [tA_uA, if_pos rfl, pk_us, wvk_n hno]
        refine hh' ⟨v, v1, ?_, v3, v4⟩
        have : v ≠ gq g + n := fun e => hno (by rw [← e]; exact ⟨v3, v4⟩)
        omega
      refine ⟨m_T h, ℓ 11, m_RW h, m_T h, m_T h, ?_⟩
      rw [a_1 o1 i40]
      refine ⟨fun z5 => ⟨m_T h, ℓ 11, m_RW h, m_T h, a11, ain, a11, ain, ?_⟩, fun z5 => ⟨m_T h, ℓ 0, m_R h, s_requestAt.mpr ?_⟩⟩
      · rw [n_cl (by omega), ml_gA11 h]
        intro G2 e2
        rw [ml_sA11 h] at e2
        subst e2
        exact ⟨⟨rfl, rfl, n + 1, _, rfl, nI_1 _, by omega, cn _, jn _, no (fun e => z5 e.1)⟩, dec⟩
      · rw [f2]
        refine ⟨m_V1 h, m_in h (by omega), ?_⟩
        rw [m_A h (by omega), rdi 2 (by decide) (by decide)]
        refine ⟨fun z6 => ⟨m_T h, ℓ 11, m_RW h, m_T h, ?_⟩, fun z6 => ⟨m_T h, ℓ 0, m_R h, s_requestAt.mpr ?_⟩⟩
        · rw [ml_gI, g5, n_sub (show glo g ≤ glo g + i by omega), show glo g + i - glo g = i by omega]
          refine ⟨a11, ain, a11, ain, ?_⟩
          rw [n_cl (by omega), ml_gA11 h]
          intro G2 e2
          rw [ml_sA11 h] at e2
          subst e2
          exact ⟨⟨rfl, rfl, n + 1, _, rfl, nI_1 _, by omega, cn _, jn _, no (fun e => z6 (by rw [e.2]))⟩, dec⟩
        · rw [f9]
          refine ⟨m_V1 h, m_in h (by omega), a11, ain, ?_⟩
          rw [n_cl (by omega), m_A h (by omega), rdi 9 (by decide) (by decide), ml_gA11 h]
          intro G2 e2
          rw [ml_sA11 h] at e2
          subst e2
          refine ⟨⟨rfl, rfl, n + 1, _, rfl, nI_1 _, by omega, cn _, jn _, fun _ => ?_⟩, dec⟩
          rw [tA_uA, if_pos rfl, pk_us, wvk_y z5 (n_inj (by omega) (by omega) z6)]
theorem ec_reg {dv r : Nat} (hd : 1 ≤ dv) (b : Nat) : nI b + (32 * (nI dv - 1) + nI r) = nI (b + plc dv r) := by
  rw [show nI dv - 1 = nI (dv - 1) from n_sub (b := 1) hd, show (32 : Int32) * nI (dv - 1) = nI (32 * (dv - 1)) from pk_mul 32 _, n_add, n_add]
  rfl
theorem sm_code {Pr : Int32 → Gt → Prop} (h : ML G m ℓ) (hv : MV (tA t 0) S) (hw : WF S) (ho : GO S g) (hg : MGs t S g) (hmw : MWs t S g) (hp : Pr (nI (rcode (zro S (gdv S g)) (ztp S (gdv S g)) (glo g) (gwd g) (gw S g) (gwr S g))) (mk G m ℓ t)) : wX10_code X (mk G m ℓ t) m Pr := by
  obtain ⟨o1, o2, o3, o4, o5, o6, o7, o8, o9⟩ := id ho
  obtain ⟨q40, w0, w1, w2, w3, w4, w5, w6, w7, w8, _⟩ := wf_rq hw o9
  have hgh : ghi g = glo g + gwd g := by unfold gwd; omega
  have hd1 : 1 ≤ gdv S g := w1
  have hd3 : gdv S g ≤ 3 := w2
  obtain ⟨g1, g2, g3, g4, g5, g6⟩ := id hg
  obtain ⟨d1, d2, d3, _⟩ := hw.2.1 (gdv S g)
  have hwr : ∀ j, gwr S g j < 65536 := fun j => wvk_lt hw.2.2.1.1 _ (by omega)
  unfold rcode at hp
  have loop : ∀ (L : Nat), L ≤ 1 → (L = 1 ↔ 32 < glo g + gwd g) → ∃ (I : Gt → Nat → Int32 → Int32 → Int32 → Prop) (μ : Gt → Nat → Int32 → Int32 → Int32 → Nat), I (mk G m ℓ t) m (nI L) (0 : Int32) (nI (glo g)) ∧ ∀ (G : Gt) (a0 : Nat) (x1 : Int32) (x2 : Int32) (x3 : Int32), I G a0 x1 x2 x3 → wX10_code_22 X Pr (fun G' a0' x1' x2' x3' => I G' a0' x1' x2' x3' ∧ μ G' a0' x1' x2' x3' < μ G a0 x1 x2 x3) G a0 x1 x2 x3 := by
    intro L hL hLi
    refine ⟨fun g' a0 x1 x2 x3 => g' = mk G m ℓ t ∧ a0 = m ∧ ∃ i A B, x3 = nI (glo g + i) ∧ i ≤ gwd g ∧ x1 = nI A ∧ x2 = nI B ∧ A ≤ 1 ∧ B ≤ 1 ∧ (i = 0 ∨ gw S g = true) ∧ (A = 1 ↔ 32 < glo g + gwd g ∨ anyB i (fun k => zro S (gdv S g) (glo g + k) == 1) = true) ∧ (B = 1 ↔ anyB i (fun k => decide (ztp S (gdv S g) < gwr S g k)) = true), fun _ _ _ _ x3 => ghi g - x3.toNatClampNeg, ⟨rfl, rfl, 0, L, 0, rfl, by omega, rfl, rfl, hL, by omega, Or.inl rfl, ⟨fun e => Or.inl (hLi.mp e), fun e => hLi.mpr (e.elim id (fun e => by cases e))⟩, ⟨fun e => absurd e (by decide), fun e => by cases e⟩⟩, ?_⟩
    rintro g' a0 x1 x2 x3 ⟨rfl, rfl, i, A, B, rfl, hi, rfl, rfl, hA, hB, hi4, hAi, hBi⟩
    -- the end
    have fin : (i = gwd g ∨ gw S g = false ∨ A = 1) → wX10_code_112 X Pr (mk G a0 ℓ t) (nI A) (nI B) := by
      intro hf
      refine ⟨fun z => ?_, fun z => ?_⟩
      · have eA : A = 0 := n_inj (b := 0) (by omega) (by decide) z
        have n32 : ¬ 32 < glo g + gwd g := fun e => by have := hAi.mpr (Or.inl e); omega
        rw [if_neg n32] at hp
        by_cases hb : gw S g = true
        · have ei : i = gwd g := by
            rcases hf with e | e | e
            · exact e
            · rw [hb] at e; cases e
            · omega
          subst ei
          have na : ¬ anyB (gwd g) (fun k => zro S (gdv S g) (glo g + k) == 1) = true := fun e => by have := hAi.mpr (Or.inr e); omega
          rw [if_pos hb, if_neg na] at hp
          refine ⟨fun z2 => ?_, fun z2 => ?_⟩
          · have eB : B = 0 := n_inj (b := 0) (by omega) (by decide) z2
            rw [if_neg (fun e => by have := hBi.mpr e; omega)] at hp
            exact hp
          · have eB : B = 1 := by
              rcases (show B = 0 ∨ B = 1 by omega) with e | e
              · exact absurd (by rw [e]; rfl) z2
              · exact e
            rw [if_pos (hBi.mp eB)] at hp
            exact hp
        · rw [if_neg hb] at hp
          have ei : i = 0 := hi4.elim id (fun e => absurd e hb)
          subst ei
          have eB : B = 0 := by
            rcases (show B = 0 ∨ B = 1 by omega) with e | e
            · exact e
            · have := hBi.mp e; cases this
          subst eB
          exact ⟨fun _ => hp, fun z2 => absurd rfl z2⟩
      · have eA : A = 1 := by
          rcases (show A = 0 ∨ A = 1 by omega) with e | e
          · exact absurd (by rw [e]; rfl) z
          · exact e
        rcases hAi.mp eA with e | e
        · rw [if_pos e] at hp; exact hp
        · by_cases n32 : 32 < glo g + gwd g
          · rw [if_pos n32] at hp; exact hp
          · rw [if_neg n32] at hp
            have hb : gw S g = true := by
              rcases hi4 with e0 | e0
              · subst e0; cases e
              · exact e0
            have ea : anyB (gwd g) (fun k => zro S (gdv S g) (glo g + k) == 1) = true := by
              obtain ⟨v, v1, v2⟩ := anyB_iff.mp e
              exact anyB_iff.mpr ⟨v, by omega, v2⟩
            rw [if_pos hb, if_pos ea] at hp
            exact hp
    unfold wX10_code_22
    rw [ml_gI, ml_gI, ml_gI, g3, g4, g6, n_le (by omega) (by omega)]
    refine ⟨m_T h, fun z => fin (Or.inl (by omega)), fun z => ⟨fun z2 => fin (Or.inr (Or.inr ?_)), fun z2 => ⟨m_T h, fun z3 => fin (Or.inr (Or.inl ?_)), fun z3 => ⟨m_T h, ℓ 0, m_R h, m_T h, s_registerAt.mpr ?_⟩⟩⟩⟩
    · rcases (show A = 0 ∨ A = 1 by omega) with e | e
      · exact absurd (by rw [e]; rfl) z2
      · exact e
    · have e4 : zrq S (gq g) 4 = 0 := n_inj (b := 0) (by omega) (by decide) z3
      cases hb : gw S g with
      | false => rfl
      | true => have := gw_iff.mp hb; omega
    · have eA : A = 0 := n_inj (b := 0) (by omega) (by decide) z2
      have e4 : zrq S (gq g) 4 = 1 := by
        rcases (show zrq S (gq g) 4 = 0 ∨ zrq S (gq g) 4 = 1 by omega) with e | e
        · exact absurd (by rw [e]; rfl) z3
        · exact e
      have hb : gw S g = true := gw_iff.mpr e4
      have n32 : glo g + gwd g ≤ 32 := Nat.le_of_not_lt (fun e => by have := hAi.mpr (Or.inl e); omega)
      have na : ¬ anyB i (fun k => zro S (gdv S g) (glo g + k) == 1) = true := fun e => by have := hAi.mpr (Or.inr e); omega
      have hp1 := plc_lt (dv := gdv S g) (r := glo g + i) ⟨hd1, hd3⟩ (by omega)
      obtain ⟨r1, r2⟩ := hv.2.2.1 (gdv S g) (glo g + i) hd1 hd3 (by omega)
      obtain ⟨s1, _⟩ := hv.2.2.2.1 (gdv S g) hd1 hd3
      have er : (120 : Int32) + (32 * (nI (gdv S g) - 1) + nI (glo g + i)) = nI (120 + plc (gdv S g) (glo g + i)) := ec_reg hd1 120
      have et : (220 : Int32) + nI (gdv S g) - 1 = nI (219 + gdv S g) := by
        rw [show (220 : Int32) + nI (gdv S g) = nI (220 + gdv S g) from n_add (a := 220), show nI (220 + gdv S g) - 1 = nI (220 + gdv S g - 1) from n_sub (b := 1) (by omega), show 220 + gdv S g - 1 = 219 + gdv S g by omega]
      have dec := dec_up (L := ghi g) (i := glo g + i) (by omega) (by omega)
      have hro := d2 (glo g + i)
      have l66 : ∀ (A' : Nat), A' ≤ 1 → (A' = 1 ↔ zro S (gdv S g) (glo g + i) = 1) → wX10_code_66 X Pr (fun G' a0' x1' x2' x3' => (G' = mk G a0 ℓ t ∧ a0' = a0 ∧ ∃ i A B, x3' = nI (glo g + i) ∧ i ≤ gwd g ∧ x1' = nI A ∧ x2' = nI B ∧ A ≤ 1 ∧ B ≤ 1 ∧ (i = 0 ∨ gw S g = true) ∧ (A = 1 ↔ 32 < glo g + gwd g ∨ anyB i (fun k => zro S (gdv S g) (glo g + k) == 1) = true) ∧ (B = 1 ↔ anyB i (fun k => decide (ztp S (gdv S g) < gwr S g k)) = true)) ∧ ghi g - x3'.toNatClampNeg < ghi g - (nI (glo g + i)).toNatClampNeg) (mk G a0 ℓ t) a0 (nI B) (nI (glo g + i)) (nI A') := by
        intro A' hA' hAi'
        have nx : ∀ B', B' ≤ 1 → (B' = 1 ↔ B = 1 ∨ ztp S (gdv S g) < gwr S g i) → (mk G a0 ℓ t = mk G a0 ℓ t ∧ a0 = a0 ∧ ∃ i' A B, nI (glo g + i) + 1 = nI (glo g + i') ∧ i' ≤ gwd g ∧ nI A' = nI A ∧ nI B' = nI B ∧ A ≤ 1 ∧ B ≤ 1 ∧ (i' = 0 ∨ gw S g = true) ∧ (A = 1 ↔ 32 < glo g + gwd g ∨ anyB i' (fun k => zro S (gdv S g) (glo g + k) == 1) = true) ∧ (B = 1 ↔ anyB i' (fun k => decide (ztp S (gdv S g) < gwr S g k)) = true)) ∧ ghi g - (nI (glo g + i) + 1).toNatClampNeg < ghi g - (nI (glo g + i)).toNatClampNeg := fun B' hB' hBi' => by
          refine ⟨⟨rfl, rfl, i + 1, A', B', nI_1 _, by omega, rfl, rfl, hA', hB', Or.inr hb, ?_, ?_⟩, dec⟩
          · rw [anyB_s, hAi', Bool.eq_false_iff.mpr na]
            simp; omega
          · rw [anyB_s, hBi', hBi, Bool.or_eq_true]
            simp
        unfold wX10_code_66
        rw [ml_gI, ml_gI, g3, g5, n_sub (show glo g ≤ glo g + i by omega), show glo g + i - glo g = i by omega, et]
        refine ⟨fun z4 => nx 1 (by decide) ⟨fun _ => Or.inl ?_, fun _ => rfl⟩, fun z4 => ⟨m_T h, ℓ 11, m_RW h, m_T h, by rw [m_W h], by rw [m_W h]; exact n_in (show i < 16 by rw [if_pos e4] at o4; unfold gwd at *; omega) (by decide), m_T h, ℓ 0, m_R h, m_T h, m_V1 h, m_in h (by omega), ?_⟩⟩
        · rcases (show B = 0 ∨ B = 1 by omega) with e | e
          · exact absurd (by rw [e]; rfl) z4
          · exact e
        · have eB : B = 0 := n_inj (b := 0) (by omega) (by decide) z4
          have := hwr i
          rw [ml_gA11 h, n_cl (by omega), hmw hb i (by omega), m_A h (by omega), s1, n_le (by omega) (by omega)]
          exact ⟨fun z5 => nx 0 (by decide) ⟨fun e => absurd e (by decide), fun e => by omega⟩, fun z5 => nx 1 (by decide) ⟨fun _ => Or.inr (by omega), fun _ => rfl⟩⟩
      rw [er]
      refine ⟨m_V1 h, m_in h (by omega), ?_⟩
      rw [m_A h (by omega), r2]
      exact ⟨fun z4 => l66 0 (by decide) ⟨fun e => absurd e (by decide), fun e => absurd (by rw [e]; rfl) z4⟩, fun z4 => l66 1 (by decide) ⟨fun _ => n_inj (b := 1) (by omega) (by decide) z4, fun _ => rfl⟩⟩
  unfold wX10_code
  rw [ml_gI, ml_gI, g5, g6]
  have e32 : nI (ghi g) ≤ 32 ↔ ghi g ≤ 32 := n_le (b := 32) (by omega) (by decide)
  exact ⟨m_T h, fun z => ⟨m_T h, loop 0 (by decide) ⟨fun e => absurd e (by decide), fun e => by have := e32.mp z; omega⟩⟩, fun z => ⟨m_T h, loop 1 (by decide) ⟨fun _ => Nat.lt_of_not_le (fun e => z (e32.mpr (by omega))), fun _ => rfl⟩⟩⟩
end MGETS
