/-! ===== the reference: gets, with the fault ===== -/
section MGETS4
variable {X : Xt} {G : Gt} {m : Nat} {ℓ : Nat → Nat} {t : Tt} {S : St} {g : Gp}
theorem MV.pop {v v' : Nat → Int32} {S : St} {d : Nat} {p : Nat × Nat} {tl : Fl} (h : MV v S) (hd : 1 ≤ d ∧ d ≤ 3) (hf : zfl S d = p :: tl) (h6 : ∀ d, (zfl S d).length ≤ 6) (e : ∀ j, (j < 217 + 13 * d ∨ 217 + 13 * d + 12 < j) → v' j = v j) (e0 : v' (217 + 13 * d) = nI tl.length) (e1 : ∀ k, 1 ≤ k → k ≤ 10 → v' (217 + 13 * d + k) = v (217 + 13 * d + k + 2)) : MV v' (ufl S (va_up (zfl S) d tl)) := by
  obtain ⟨a1, a2, a3, a4, a5, a6, a7⟩ := h
  refine ⟨fun i hi hi9 => by rw [e i (by omega)]; exact a1 i hi hi9, by rw [e _ (by omega)]; exact a2, fun d' r' h1 h2 h3 => ?_, fun d' h1 h2 => ?_, fun i hi => ?_, fun q hq => ?_, fun k hk => ?_⟩
  · have hp := plc_lt ⟨h1, h2⟩ h3
    rw [e _ (by omega), e _ (by omega)]; exact a3 d' r' h1 h2 h3
  · obtain ⟨c1, c2, c3, c4⟩ := a4 d' h1 h2
    refine ⟨by rw [e _ (by omega)]; exact c1, by rw [e _ (by omega)]; exact c2, ?_⟩
    show v' (217 + 13 * d') = nI (va_up (zfl S) d tl d').length ∧ ∀ k, k < (va_up (zfl S) d tl d').length → v' (217 + 13 * d' + 1 + 2 * k) = nI ((va_up (zfl S) d tl d').getD k (0, 0)).1 ∧ v' (217 + 13 * d' + 2 + 2 * k) = nI ((va_up (zfl S) d tl d').getD k (0, 0)).2
    by_cases ed : d' = d
    · subst ed
      rw [va_up_self]
      refine ⟨e0, fun k hk => ?_⟩
      have hl := h6 d'
      rw [hf] at hl c4
      have hl' : tl.length + 1 ≤ 6 := hl
      obtain ⟨b1, b2⟩ := c4 (k + 1) (by show k + 1 < tl.length + 1; omega)
      have eg : (p :: tl).getD (k + 1) (0, 0) = tl.getD k (0, 0) := by simp [List.getD]
      rw [eg] at b1 b2
      have x1 := e1 (1 + 2 * k) (by omega) (by omega)
      have x2 := e1 (2 + 2 * k) (by omega) (by omega)
      rw [show 217 + 13 * d' + 1 + 2 * k = 217 + 13 * d' + (1 + 2 * k) by omega, x1, show 217 + 13 * d' + 2 + 2 * k = 217 + 13 * d' + (2 + 2 * k) by omega, x2, show 217 + 13 * d' + (1 + 2 * k) + 2 = 217 + 13 * d' + 1 + 2 * (k + 1) by omega, show 217 + 13 * d' + (2 + 2 * k) + 2 = 217 + 13 * d' + 2 + 2 * (k + 1) by omega]
      exact ⟨b1, b2⟩
    · rw [va_up_ne _ _ ed]
      refine ⟨by rw [e _ (by omega)]; exact c3, fun k hk => ?_⟩
      have hk6 : k < 6 := Nat.lt_of_lt_of_le hk (h6 d')
      rw [e _ (by omega), e _ (by omega)]; exact c4 k hk
  · obtain ⟨c1, c2, c3⟩ := a5 i hi
    exact ⟨fun k q1 q2 => by rw [e _ (by omega)]; exact c1 k q1 q2, by rw [e _ (by omega)]; exact c2, fun k hk => by rw [e _ (by omega)]; exact c3 k hk⟩
  · rw [e _ (by omega), e _ (by omega), e _ (by omega)]; exact a6 q hq
  · obtain ⟨c1, c2, c3, c4⟩ := a7 k hk
    exact ⟨by rw [e _ (by omega)]; exact c1, by rw [e _ (by omega)]; exact c2, by rw [e _ (by omega)]; exact c3, fun j hj => by rw [e _ (by omega)]; exact c4 j hj⟩
theorem sm_gets {Pr : Gt → Prop} (h : ML G m ℓ) (hv : MV (tA t 0) S) (hw : WF S) (ho : GO S g) (hg : MGs t S g) (hmw : MWs t S g) (hL : (zL S).length ≤ 165) (ht : zn S 0 < 2 ^ 29)
    (k : ∀ t', MV (tA t' 0) (gtS S (gfp S g) (zn S) (zL S ++ (if (hd2 (zfl S (gdv S g))).1 = 1 then [] else [prep S (gfp S g) (zn S 0)]))) → kGr t t' → Pr (mk G m ℓ t')) : wX10_gets X (mk G m ℓ t) m Pr := by
  obtain ⟨o1, o2, o3, o4, o5, o6, o7, o8, o9⟩ := id ho
  obtain ⟨q40, w0, w1, w2, w3, w4, w5, w6, w7, w8, _⟩ := wf_rq hw o9
  have hd1 : 1 ≤ gdv S g := w1
  have hd3 : gdv S g ≤ 3 := w2
  have h6 : ∀ d, (zfl S d).length ≤ 6 := fun d => (hw.2.1 d).2.2.2.2.1
  have h6d := h6 (gdv S g)
  have hwf := (hw.2.1 (gdv S g)).2.2.2.2.2
  obtain ⟨s1, s2, s3, s4⟩ := hv.2.2.2.1 (gdv S g) hd1 hd3
  have ea : (230 : Int32) + 13 * (nI (gdv S g) - 1) = nI (217 + 13 * gdv S g) := by
    rw [show nI (gdv S g) - 1 = nI (gdv S g - 1) from n_sub (b := 1) hd1, show (13 : Int32) * nI (gdv S g - 1) = nI (13 * (gdv S g - 1)) from pk_mul 13 _, show (230 : Int32) + nI (13 * (gdv S g - 1)) = nI (230 + 13 * (gdv S g - 1)) from n_add (a := 230), show 230 + 13 * (gdv S g - 1) = 217 + 13 * gdv S g by omega]
  refine ⟨m_T h, ?_⟩
  rw [ml_gI, hg.2.2.1]
  refine s_faults.mpr ⟨m_T h, ℓ 0, m_R h, m_V1 h, ?_⟩
  rw [ea]
  refine ⟨m_in h (by omega), ?_⟩
  rw [m_A h (by omega), s3]
  have e1' : nI (217 + 13 * gdv S g) + 1 = nI (217 + 13 * gdv S g + 1) := n_add (b := 1)
  have e2' : nI (217 + 13 * gdv S g) + 2 = nI (217 + 13 * gdv S g + 2) := n_add (b := 2)
  cases hfl : zfl S (gdv S g) with
  | nil =>
    have key : wX10_gets_51 X Pr (mk G m ℓ t) m (nI (217 + 13 * gdv S g)) 0 0 := by
      refine ⟨m_T h, ℓ 0, m_R h, m_V1 h, m_in h (by omega), ?_⟩
      rw [m_A h (by omega), s3, hfl]
      refine ⟨fun _ => lm_107 (kd := 0) (nb := 0) (fl := []) h hv hw ho hg hmw rfl hL ht (by decide) (by decide) (fun t' hv' c' => k t' ?_ c'), fun z => absurd (by decide) z⟩
      have e : va_up (zfl S) (gdv S g) (zfl S (gdv S g)).tail = zfl S := va_idx (by rw [hfl]; rfl)
      have e2 : gtS S (gfp S g) (zn S) (zL S ++ (if (hd2 (zfl S (gdv S g))).1 = 1 then [] else [prep S (gfp S g) (zn S 0)])) = mkS (zn S) (va_up (zrg S) (gdv S g) (arg (zrg S (gdv S g)) (acode (zro S (gdv S g)) (ztp S (gdv S g)) (zfl S (gdv S g)) (glo g) (gwd g) (gw S g) (gwr S g)) (glo g) (gwd g) (gw S g) (gwr S g))) (zro S) (ztp S) (zdl S) (va_up (zfl S) (gdv S g) (zfl S (gdv S g)).tail) (zrq S) (zW S) (zV S) (zcf S) (zcv S) (zct S) (zL S ++ (if (hd2 (zfl S (gdv S g))).1 = 1 then [] else [(abeg (zn S 0) (zdl S (gdv S g)) (zfl S (gdv S g)), zn S 7, abytes (zrg S (gdv S g)) (acode (zro S (gdv S g)) (ztp S (gdv S g)) (zfl S (gdv S g)) (glo g) (gwd g) (gw S g) (gwr S g)) (zfl S (gdv S g)) (gdv S g) (glo g) (gwd g) (gw S g) (gwr S g))])) := rfl
      rw [e2, e, hfl]
      exact hv'
    refine ⟨fun _ => ⟨m_T h, ℓ 0, m_R h, m_V1 h, m_in h (by omega), ?_⟩, fun z => absurd (by decide) z⟩
    rw [m_A h (by omega), s3, hfl]
    exact ⟨fun _ => key, fun z => absurd (by decide) z⟩
  | cons p tl =>
    rw [hfl] at h6d s3 s4 hwf
    have hl6 : tl.length + 1 ≤ 6 := h6d
    obtain ⟨p1, p2, p3⟩ := hwf p List.mem_cons_self
    obtain ⟨f1, f2⟩ := s4 0 (by simp)
    have f1' : tA t 0 (217 + 13 * gdv S g + 1) = nI p.1 := f1
    have f2' : tA t 0 (217 + 13 * gdv S g + 2) = nI p.2 := f2
    have npos : ¬ nI (p :: tl).length ≤ 0 := fun z => by
      have := (n_le (b := 0) (by simp; omega) (by decide)).mp z
      simp at this
    refine ⟨fun z => absurd z npos, fun _ => ⟨m_T h, ℓ 0, m_R h, m_V1 h, ?_⟩⟩
    rw [e1']
    refine ⟨m_in h (by omega), ?_⟩
    rw [m_A h (by omega), f1']
    refine ⟨m_T h, ℓ 0, m_R h, m_V1 h, m_in h (by omega), ?_⟩
    rw [m_A h (by omega), s3]
    refine ⟨fun z => absurd z npos, fun _ => ⟨m_T h, ℓ 0, m_R h, m_V1 h, ?_⟩⟩
    rw [e2']
    refine ⟨m_in h (by omega), ?_⟩
    rw [m_A h (by omega), f2']
    refine ⟨m_T h, ℓ 0, m_R h, m_V1 h, m_in h (by omega), ?_⟩
    rw [m_A h (by omega), s3]
    refine ⟨fun z => absurd z npos, fun _ => ⟨m_T h, ℓ 0, m_R h, m_V1 h, m_in h (by omega), m_V1 h, m_in h (by omega), ?_⟩⟩
    rw [m_A h (by omega), s3, n_cl (by omega), show nI (p :: tl).length - 1 = nI tl.length from nI_pred tl.length, ml_gA0 h]
    intro G1 eG1
    rw [ml_sA0 h] at eG1
    subst eG1
    refine ⟨fun g' a0 x1 x2 x3 x4 => a0 = m ∧ x1 = nI (217 + 13 * gdv S g) ∧ x2 = nI p.1 ∧ x3 = nI p.2 ∧ ∃ i T, g' = mk G m ℓ T ∧ x4 = nI i ∧ 1 ≤ i ∧ i ≤ 11 ∧ kVr t T ∧ (∀ j, (j < 217 + 13 * gdv S g ∨ 217 + 13 * gdv S g + i ≤ j) → tA T 0 j = tA t 0 j) ∧ tA T 0 (217 + 13 * gdv S g) = nI tl.length ∧ ∀ q, 1 ≤ q → q < i → tA T 0 (217 + 13 * gdv S g + q) = tA t 0 (217 + 13 * gdv S g + q + 2), fun _ _ _ _ _ x4 => 11 - x4.toNatClampNeg, ⟨rfl, rfl, rfl, rfl, 1, _, rfl, rfl, by omega, by omega, kVr.u, fun j hj => by rw [tA_uA, if_pos rfl, pk_un (by omega)], by rw [tA_uA, if_pos rfl, pk_us], fun q q1 q2 => absurd q2 (by omega)⟩, ?_⟩
    rintro g' a0 x1 x2 x3 x4 ⟨rfl, rfl, rfl, rfl, i, T, rfl, rfl, hi1, hi2, cT, hout, h0, hin⟩
    refine ⟨fun z => ?_, fun z => ?_⟩
    · have z' : 10 < i := (n_lt (a := 10) (by decide) (by omega)).mp z
      have ei : i = 11 := by omega
      subst ei
      have hvT : MV (tA T 0) (ufl S (va_up (zfl S) (gdv S g) tl)) := hv.pop ⟨hd1, hd3⟩ hfl h6 (fun j hj => hout j (by omega)) h0 (fun q q1 q2 => hin q q1 (by omega))
      have ewf : WF (ufl S (va_up (zfl S) (gdv S g) tl)) := by
        have := fl_wf (d := gdv S g) hw
        rw [hfl] at this
        exact this
      refine lm_107 (S := ufl S (va_up (zfl S) (gdv S g) tl)) (kd := p.1) (nb := p.2) (fl := p :: tl) h hvT ewf ho (hg.v cT) (fun hb j hj => by rw [cT.1 11 (by decide)]; exact hmw hb j hj) rfl hL ht p2 p3 (fun t' hv' c' => k t' ?_ (cT.g.tr c'))
      have e2 : gtS S (gfp S g) (zn S) (zL S ++ (if (hd2 (zfl S (gdv S g))).1 = 1 then [] else [prep S (gfp S g) (zn S 0)])) = mkS (zn S) (va_up (zrg S) (gdv S g) (arg (zrg S (gdv S g)) (acode (zro S (gdv S g)) (ztp S (gdv S g)) (zfl S (gdv S g)) (glo g) (gwd g) (gw S g) (gwr S g)) (glo g) (gwd g) (gw S g) (gwr S g))) (zro S) (ztp S) (zdl S) (va_up (zfl S) (gdv S g) (zfl S (gdv S g)).tail) (zrq S) (zW S) (zV S) (zcf S) (zcv S) (zct S) (zL S ++ (if (hd2 (zfl S (gdv S g))).1 = 1 then [] else [(abeg (zn S 0) (zdl S (gdv S g)) (zfl S (gdv S g)), zn S 7, abytes (zrg S (gdv S g)) (acode (zro S (gdv S g)) (ztp S (gdv S g)) (zfl S (gdv S g)) (glo g) (gwd g) (gw S g) (gwr S g)) (zfl S (gdv S g)) (gdv S g) (glo g) (gwd g) (gw S g) (gwr S g))])) := rfl
      rw [e2, hfl]
      exact hv'
    · have z' : ¬ 10 < i := fun e => z ((n_lt (a := 10) (by decide) (by omega)).mpr e)
      rw [n_add, show nI (217 + 13 * gdv S g + i) + 2 = nI (217 + 13 * gdv S g + i + 2) from n_add (b := 2)]
      refine ⟨m_T h, ℓ 0, m_R h, m_T h, ℓ 0, m_R h, m_V1 h, m_in h (by omega), m_V1 h, m_in h (by omega), ?_⟩
      rw [n_cl (by omega), m_A h (by omega), hout _ (by omega), ml_gA0 h]
      intro G2 eG2
      rw [ml_sA0 h] at eG2
      subst eG2
      refine ⟨⟨rfl, rfl, rfl, rfl, i + 1, _, rfl, nI_1 i, by omega, by omega, cT.tr kVr.u, fun j hj => ?_, ?_, fun q q1 q2 => ?_⟩, dec_up (L := 11) (by omega) (by decide)⟩
      · rw [tA_uA, if_pos rfl, pk_un (by omega)]; exact hout j (by omega)
      · rw [tA_uA, if_pos rfl, pk_un (by omega)]; exact h0
      · rw [tA_uA, if_pos rfl]
        by_cases e : q = i
        · subst e; rw [pk_us]
        · rw [pk_un (by omega)]; exact hin q q1 (by omega)
end MGETS4
