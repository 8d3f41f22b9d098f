/-! ===== the reference: tries ===== -/
section MTRI
variable {X : Xt} {G : Gt} {m : Nat} {ℓ : Nat → Nat} {t : Tt} {S : St} {g : Gp}
theorem gfp_k {T : St} (h : kpA S T) : gfp T g = gfp S g := by
  unfold gfp gdv gw gwr
  rw [h.1, h.n3 (j := 6) (by decide) (by decide)]
theorem GO.k {T : St} (ho : GO S g) (h : kpA S T) : GO T g := by
  unfold GO
  rw [h.1, h.n3 (j := 6) (by decide) (by decide)]
  exact ho
theorem MGs.k {T : St} {t' : Tt} (hg : MGs t S g) (h : kpA S T) (k : kAt t t') : MGs t' T g := by
  have := MG.a hg k
  unfold MGs gdv at *
  rw [h.1]
  exact this
theorem MWs.k {T : St} (hg : MWs t T g) (h : kpA S T) : MWs t S g := by
  unfold MWs gw gwr at *
  rw [h.1, h.n3 (j := 6) (by decide) (by decide)] at hg
  exact hg
theorem lm_tries {Pr : Int32 → Gt → Prop} (h : ML G m ℓ) (hv : MV (tA t 0) S) (hw : WF S) (ho : GO S g) (hp : wfF (gfp S g)) (hg : MGs t S g) (hL : (zL S).length ≤ 160) (ht : zn S 0 < 2 ^ 27) (h7 : zn S 7 < 2 ^ 28)
    (k0 : ∀ t', (trS (gfp S g) (zn S 3 + 1) S).2 = none → MV (tA t' 0) (trS (gfp S g) (zn S 3 + 1) S).1 → kAt t t' → Pr 0 (mk G m ℓ t'))
    (k1 : ∀ t' r, (trS (gfp S g) (zn S 3 + 1) S).2 = some r → MV (tA t' 0) (trS (gfp S g) (zn S 3 + 1) S).1 → MTk t' r → MWs t' S g → kAt t t' → Pr 1 (mk G m ℓ t')) :
    ∃ (I : Gt → Nat → Int32 → Int32 → Prop) (μ : Gt → Nat → Int32 → Int32 → Nat), I (mk G m ℓ t) m (0 : Int32) (0 : Int32) ∧ ∀ (G : Gt) (a0 : Nat) (x1 : Int32) (x2 : Int32), I G a0 x1 x2 → wX10_tries_45 X Pr (fun G' a0' x1' x2' => I G' a0' x1' x2' ∧ μ G' a0' x1' x2' < μ G a0 x1 x2) G a0 x1 x2 := by
  have s3 : zn S 3 ≤ 3 := hw.1.2.2.2.1
  refine ⟨fun K a0 x1 x2 => a0 = m ∧ ∃ k T t', K = mk G m ℓ t' ∧ x2 = nI k ∧ k ≤ zn S 3 + 1 ∧ kAt t t' ∧ MV (tA t' 0) T ∧ kpA S T ∧ ((x1 = 0 ∧ trS (gfp S g) (zn S 3 + 1 - k) T = trS (gfp S g) (zn S 3 + 1) S ∧ WF T ∧ (zL T).length ≤ 160 + k ∧ zn T 0 < 2 ^ 27 + 1100 * k) ∨ (x1 = 1 ∧ ∃ r, (trS (gfp S g) (zn S 3 + 1) S).2 = some r ∧ (trS (gfp S g) (zn S 3 + 1) S).1 = T ∧ MTk t' r ∧ MWs t' S g)), fun _ _ _ x2 => zn S 3 + 1 - x2.toNatClampNeg, ⟨rfl, 0, S, t, rfl, rfl, by omega, kAt.rf, hv, kpA.rf, Or.inl ⟨rfl, rfl, hw, by omega, by omega⟩⟩, ?_⟩
  rintro K a0 x1 x2 ⟨rfl, k, T, t', rfl, rfl, hk, hka, hvT, hkp, hd⟩
  have e3 : zn T 3 = zn S 3 := hkp.n3 (by decide) (by decide)
  have e7 : zn T 7 = zn S 7 := hkp.n3 (by decide) (by decide)
  have hh : Pr x1 (mk G a0 ℓ t') ∨ (x1 = 0 ∧ k < zn S 3 + 1) := by
    rcases hd with ⟨rfl, d1, d2, d3, d4⟩ | ⟨rfl, r, d1, d2, d3⟩
    · by_cases e : k = zn S 3 + 1
      · subst e
        rw [show zn S 3 + 1 - (zn S 3 + 1) = 0 by omega] at d1
        have d1' : trS (gfp S g) (zn S 3 + 1) S = (T, none) := d1.symm
        exact Or.inl (k0 t' (by rw [d1']) (by rw [d1']; exact hvT) hka)
      · exact Or.inr ⟨rfl, by omega⟩
    · exact Or.inl (k1 t' r d1 (by rw [d2]; exact hvT) d3.1 d3.2 hka)
  have hx : x1 = 0 ∨ x1 = 1 := hd.imp (fun z => z.1) (fun z => z.1)
  refine ⟨m_T h, ℓ 0, m_R h, m_V1 h, m_in h (j := 3) (by decide), ?_⟩
  rw [show gA (mk G a0 ℓ t') (ℓ 0) (3 : Int32).toNatClampNeg = nI (zn T 3) from m_num h hvT (by decide) (by decide), e3, n_lt (by omega) (by omega)]
  refine ⟨fun z => ⟨hx, hh.elim id (fun w => absurd w.2 (by omega))⟩, fun z => ⟨fun w => ⟨hx, hh.elim id (fun u => absurd u.1 w)⟩, fun w => ?_⟩⟩
  rcases hd with ⟨_, d1, d2, d3, d4⟩ | ⟨w', _⟩
  · have hsp : zn S 3 + 1 - k = (zn S 3 + 1 - (k + 1)) + 1 := by omega
    rw [hsp] at d1
    have hpT : wfF (gfp T g) := by rw [gfp_k hkp]; exact hp
    obtain ⟨a1, a2, a3, a4, a5, a6, a7, a8, a9⟩ := at_ok d2 hpT
    refine ⟨m_T h, sm_attempts h hvT d2 (ho.k hkp) hpT (hg.k hkp hka) (by omega) (by omega) (by omega) (fun t2 o1 o2 o3 => ?_) (fun t2 r o1 o2 o3 o5 o4 => ?_)⟩
    · rw [gfp_k hkp] at o1 o2 a1 a2 a3 a4 a5
      rw [trS_n o1] at d1
      exact ⟨⟨rfl, k + 1, _, t2, rfl, nI_1 k, by omega, hka.tr o3, o2, hkp.tr a2, Or.inl ⟨rfl, d1, a1, by omega, by omega⟩⟩, dec_up (by omega) (by omega)⟩
    · rw [gfp_k hkp] at o1 o2 a2
      rw [trS_y o1] at d1
      exact ⟨⟨rfl, k + 1, _, t2, rfl, nI_1 k, by omega, hka.tr o4, o2, hkp.tr a2, Or.inr ⟨rfl, r, by rw [← d1]; exact o1, by rw [← d1], o3, o5.k hkp⟩⟩, dec_up (by omega) (by omega)⟩
  · rw [w'] at w; exact absurd w (by decide)
theorem sm_tries {Pr : Int32 → Gt → Prop} (h : ML G m ℓ) (hv : MV (tA t 0) S) (hw : WF S) (ho : GO S g) (hp : wfF (gfp S g)) (hg : MGs t S g) (hL : (zL S).length ≤ 160) (ht : zn S 0 < 2 ^ 26) (h7 : zn S 7 < 2 ^ 27)
    (k0 : ∀ t', (triesS S (gfp S g)).2 = none → MV (tA t' 0) (triesS S (gfp S g)).1 → kAt t t' → Pr 0 (mk G m ℓ t'))
    (k1 : ∀ t' r, (triesS S (gfp S g)).2 = some r → MV (tA t' 0) (triesS S (gfp S g)).1 → MTk t' r → MWs t' S g → kAt t t' → Pr 1 (mk G m ℓ t')) : wX10_tries X (mk G m ℓ t) m Pr := by
  obtain ⟨s1, s2, s2', s3, s4, s5, s6, s8⟩ := hw.1
  refine ⟨m_T h, ℓ 0, m_R h, m_V1 h, m_in h (j := 7) (by decide), m_V1 h, m_in h (j := 7) (by decide), ?_⟩
  rw [show gA (mk G m ℓ t) (ℓ 0) (7 : Int32).toNatClampNeg = nI (zn S 7) from m_num h hv (by decide) (by decide), nI_1, ml_gA0 h]
  intro G2 e2
  rw [ml_sA0 h] at e2
  subst e2
  have hv2' := hv.num (j := 7) (x := zn S 7 + 1) (by decide) (by decide)
  generalize hT2 : uA t 0 (upd (tA t 0) (7 : Int32).toNatClampNeg (nI (zn S 7 + 1))) = t2
  have hv2 : MV (tA t2 0) (u1 S 7 (zn S 7 + 1)) := by rw [← hT2, tA_uA, if_pos rfl]; exact hv2'
  have c2 : kVr t t2 := by rw [← hT2]; exact kVr.u
  have go : ∀ d, d ≤ 1000 → d = (if zn S 8 = 1 then zn S 4 else 0) → ∀ G3, G3 = sA (mk G m ℓ t2) (ℓ 0) (upd (gA (mk G m ℓ t2) (ℓ 0)) (0 : Int32).toNatClampNeg (nI (zn S 0) + nI d)) → ∃ (I : Gt → Nat → Int32 → Int32 → Prop) (μ : Gt → Nat → Int32 → Int32 → Nat), I G3 m (0 : Int32) (0 : Int32) ∧ ∀ (G : Gt) (a0 : Nat) (x1 : Int32) (x2 : Int32), I G a0 x1 x2 → wX10_tries_45 X Pr (fun G' a0' x1' x2' => I G' a0' x1' x2' ∧ μ G' a0' x1' x2' < μ G a0 x1 x2) G a0 x1 x2 := by
    intro d hd ed G3 e3
    rw [n_add, ml_gA0 h, ml_sA0 h] at e3
    subst e3
    have hv3 := hv2.num (j := 0) (x := zn S 0 + d) (by decide) (by decide)
    have eT : triesS S (gfp S g) = trS (gfp (u1 (u1 S 7 (zn S 7 + 1)) 0 (zn S 0 + d)) g) (zn (u1 (u1 S 7 (zn S 7 + 1)) 0 (zn S 0 + d)) 3 + 1) (u1 (u1 S 7 (zn S 7 + 1)) 0 (zn S 0 + d)) := by rw [ed]; rfl
    rw [eT] at k0 k1
    have c3 : kAt t (uA t2 0 (upd (tA t2 0) (0 : Int32).toNatClampNeg (nI (zn S 0 + d)))) := (c2.tr kVr.u).a
    refine lm_tries (S := u1 (u1 S 7 (zn S 7 + 1)) 0 (zn S 0 + d)) (g := g) h (by rw [tA_uA, if_pos rfl]; exact hv3) (u7_wf hw _ _ (by omega) (by omega)) ho hp (MG.a hg c3) hL (by show zn S 0 + d < _; omega) (by show zn S 7 + 1 < _; omega) (fun t' a b c => k0 t' a b (c3.tr c)) (fun t' r a b e f c => k1 t' r a b e f (c3.tr c))
  refine ⟨m_T h, ℓ 0, m_R h, m_V1 h, m_in h (j := 0) (by decide), m_T h, ℓ 0, m_R h, m_V1 h, m_in h (j := 8) (by decide), ?_⟩
  rw [show gA (mk G m ℓ t2) (ℓ 0) (8 : Int32).toNatClampNeg = nI (zn S 8) from m_num h hv2 (by decide) (by decide), show gA (mk G m ℓ t2) (ℓ 0) (0 : Int32).toNatClampNeg = nI (zn S 0) from m_num h hv2 (by decide) (by decide)]
  refine ⟨fun z => ⟨m_V1 h, m_in h (j := 0) (by decide), go 0 (by omega) (by rw [if_neg (fun e => z (by rw [e]; rfl))])⟩, fun z => ⟨m_T h, ℓ 0, m_R h, m_V1 h, m_in h (j := 4) (by decide), m_V1 h, m_in h (j := 0) (by decide), ?_⟩⟩
  rw [show gA (mk G m ℓ t2) (ℓ 0) (4 : Int32).toNatClampNeg = nI (zn S 4) from m_num h hv2 (by decide) (by decide)]
  exact go (zn S 4) (by omega) (by rw [if_pos (n_inj (by omega) (by omega) (z.trans (show (1 : Int32) = nI 1 from rfl)))])
end MTRI
