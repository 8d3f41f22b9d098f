/-! ===== the reference: gets ===== -/
theorem MV.app {v v' : Nat → Int32} {S : St} {r : Rp} (h : MV v S) (e : ∀ j, j ≠ 9 → j < 1700 + 42 * (zL S).length → v' j = v j) (h9 : v' 9 = nI ((zL S).length + 1)) (b0 : v' (1700 + 42 * (zL S).length) = nI r.1) (b1 : v' (1700 + 42 * (zL S).length + 1) = nI r.2.2.length) (b2 : v' (1700 + 42 * (zL S).length + 2) = nI r.2.1) (b3 : ∀ j, j < r.2.2.length → v' (1700 + 42 * (zL S).length + 3 + j) = nI (r.2.2.getD j 0)) (h6 : ∀ d, (zfl S d).length ≤ 6) (h42 : ∀ q ∈ zL S, q.2.2.length ≤ 37) : MV v' (uL S (zL S ++ [r])) := by
  obtain ⟨a1, a2, a3, a4, a5, a6, a7⟩ := h
  refine ⟨fun i hi hi9 => by rw [e i hi9 (by omega)]; exact a1 i hi hi9, ?_, fun d r' h1 h2 h3 => ?_, fun d h1 h2 => ?_, fun i hi => ?_, fun p hp => ?_, fun k hk => ?_⟩
  · show v' 9 = nI (zL S ++ [r]).length
    rw [h9, List.length_append]; rfl
  · have hp := plc_lt ⟨h1, h2⟩ h3
    rw [e _ (by omega) (by omega), e _ (by omega) (by omega)]; exact a3 d r' h1 h2 h3
  · obtain ⟨c1, c2, c3, c4⟩ := a4 d h1 h2
    refine ⟨by rw [e _ (by omega) (by omega)]; exact c1, by rw [e _ (by omega) (by omega)]; exact c2, by rw [e _ (by omega) (by omega)]; exact c3, fun k hk => ?_⟩
    have hk6 : k < 6 := Nat.lt_of_lt_of_le hk (h6 d)
    rw [e _ (by omega) (by omega), e _ (by omega) (by omega)]; exact c4 k hk
  · obtain ⟨c1, c2, c3⟩ := a5 i hi
    exact ⟨fun k q1 q2 => by rw [e _ (by omega) (by omega)]; exact c1 k q1 q2, by rw [e _ (by omega) (by omega)]; exact c2, fun k hk => by rw [e _ (by omega) (by omega)]; exact c3 k hk⟩
  · rw [e _ (by omega) (by omega), e _ (by omega) (by omega), e _ (by omega) (by omega)]; exact a6 p hp
  · have hk' : k < (zL S ++ [r]).length := hk
    show v' (1700 + 42 * k) = nI ((zL S ++ [r]).getD k dr).1 ∧ v' (1700 + 42 * k + 1) = nI ((zL S ++ [r]).getD k dr).2.2.length ∧ v' (1700 + 42 * k + 2) = nI ((zL S ++ [r]).getD k dr).2.1 ∧ ∀ j, j < ((zL S ++ [r]).getD k dr).2.2.length → v' (1700 + 42 * k + 3 + j) = nI (((zL S ++ [r]).getD k dr).2.2.getD j 0)
    rw [List.length_append] at hk'
    have hk2 : k < (zL S).length + 1 := hk'
    by_cases ek : k = (zL S).length
    · subst ek
      have e2 : (zL S ++ [r]).getD (zL S).length dr = r := by simp [List.getD]
      rw [e2]
      exact ⟨b0, b1, b2, b3⟩
    · have hk3 : k < (zL S).length := by omega
      have e2 : (zL S ++ [r]).getD k dr = (zL S).getD k dr := by simp [List.getD, List.getElem?_append_left hk3]
      rw [e2]
      obtain ⟨c1, c2, c3, c4⟩ := a7 k hk3
      have h37 := h42 _ (gRd hk3)
      exact ⟨by rw [e _ (by omega) (by omega)]; exact c1, by rw [e _ (by omega) (by omega)]; exact c2, by rw [e _ (by omega) (by omega)]; exact c3, fun j hj => by rw [e _ (by omega) (by omega)]; exact c4 j hj⟩
theorem fl_wf {S : St} {d : Nat} (hw : WF S) : WF (ufl S (va_up (zfl S) d (zfl S d).tail)) := by
  obtain ⟨w1, w2, w3, w4, w5⟩ := hw
  refine ⟨w1, fun d' => ?_, w3, w4, w5⟩
  show wfD (zrg S d') (zro S d') (ztp S d') (zdl S d') (va_up (zfl S) d (zfl S d).tail d')
  obtain ⟨d1, d2, d3, d4, d5, d6⟩ := w2 d'
  by_cases e : d' = d
  · subst e
    rw [va_up_self]
    exact ⟨d1, d2, d3, d4, by rw [List.length_tail]; omega, fun q hq => d6 q (List.mem_of_mem_tail hq)⟩
  · rw [va_up_ne _ _ e]; exact ⟨d1, d2, d3, d4, d5, d6⟩
theorem rg_wf {S : St} {d : Nat} {f : Nat → Nat} (hw : WF S) (hf : ∀ r, f r < 65536) : WF (urg S (va_up (zrg S) d f)) := by
  obtain ⟨w1, w2, w3, w4, w5⟩ := hw
  refine ⟨w1, fun d' => ?_, w3, w4, w5⟩
  show wfD (va_up (zrg S) d f d') (zro S d') (ztp S d') (zdl S d') (zfl S d')
  obtain ⟨d1, d2, d3, d4, d5, d6⟩ := w2 d'
  by_cases e : d' = d
  · subst e; rw [va_up_self]; exact ⟨hf, d2, d3, d4, d5, d6⟩
  · rw [va_up_ne _ _ e]; exact ⟨d1, d2, d3, d4, d5, d6⟩
section MGETS3
variable {X : Xt} {G : Gt} {m : Nat} {ℓ : Nat → Nat} {t : Tt} {S : St} {g : Gp}
/-- the reply comes to the line -/
theorem lm_158 {kd nb : Nat} {l : List Nat} {Pr : Gt → Prop} (h : ML G m ℓ) (hv : MV (tA t 0) S) (hw : WF S) (hd : 1 ≤ gdv S g ∧ gdv S g ≤ 3) (hg : tS t 360 = nI (gdv S g)) (hf : MF t l) (hl : l.length ≤ 37) (hL : (zL S).length ≤ 165) (ht : zn S 0 < 2 ^ 29) (hk : kd ≤ 4) (hn : nb ≤ 2000)
    (k : ∀ t', MV (tA t' 0) (uL S (zL S ++ (if kd = 1 then [] else [(zn S 0 + zdl S (gdv S g) + (if kd = 3 then nb else 0), zn S 7, l)]))) → kVr t t' → Pr (mk G m ℓ t')) : wX10_gets_158 X Pr (mk G m ℓ t) m (nI kd) (nI nb) := by
  have h6 : ∀ d, (zfl S d).length ≤ 6 := fun d => (hw.2.1 d).2.2.2.2.1
  have q1 : nI kd = 1 ↔ kd = 1 := nI_eq (b := 1) (by omega) (by decide)
  have q3 : nI kd = 3 ↔ kd = 3 := nI_eq (b := 3) (by omega) (by decide)
  have e9 : gA (mk G m ℓ t) (ℓ 0) (9 : Int32).toNatClampNeg = nI (zL S).length := (m_A h (j := 9) (by decide)).trans hv.2.1
  have e0 : gA (mk G m ℓ t) (ℓ 0) (0 : Int32).toNatClampNeg = nI (zn S 0) := (m_A h (j := 0) (by decide)).trans (hv.1 0 (by decide) (by decide))
  have ed : (224 : Int32) + nI (gdv S g) - 1 = nI (223 + gdv S g) := by
    rw [show (224 : Int32) + nI (gdv S g) = nI (224 + gdv S g) from n_add (a := 224), show nI (224 + gdv S g) - 1 = nI (224 + gdv S g - 1) from n_sub (b := 1) (by omega), show 224 + gdv S g - 1 = 223 + gdv S g by omega]
  obtain ⟨_, s2, _⟩ := hv.2.2.2.1 (gdv S g) hd.1 hd.2
  refine ⟨fun z => ?_, fun z => ⟨m_T h, ℓ 0, m_R h, m_V1 h, m_in h (j := 9) (by decide), m_T h, ℓ 0, m_R h, m_T h, ℓ 0, m_R h, m_V1 h, m_in h (j := 0) (by decide), m_T h, ℓ 0, m_R h, m_T h, m_V1 h, ?_⟩⟩
  · rw [if_pos (q1.mp z), List.append_nil] at k
    exact k t hv kVr.rf
  rw [if_neg (fun e => z (q1.mpr e))] at k
  rw [ml_gI, hg, ed]
  refine ⟨m_in h (by omega), ?_⟩
  rw [m_A h (by omega), s2, e9, e0, n_add, show (1700 : Int32) + 42 * nI (zL S).length = nI (1700 + 42 * (zL S).length) from ix2 1700 42 _]
  -- with the begin bg
  have l217 : ∀ (bg x y : Nat), bg = zn S 0 + zdl S (gdv S g) + (if kd = 3 then nb else 0) → x + y = bg → wX10_gets_217 X Pr (mk G m ℓ t) m (nI (1700 + 42 * (zL S).length)) (ℓ 0) (nI (1700 + 42 * (zL S).length)) (nI x) (nI y) := by
    intro bg x y hbg hxy
    refine ⟨m_V1 h, m_in h (by omega), ?_⟩
    rw [n_cl (by omega), n_add, hxy, ml_gA0 h]
    intro G1 e1
    rw [ml_sA0 h] at e1
    subst e1
    refine ⟨m_T h, ℓ 0, m_R h, m_T h, m_V1 h, ?_⟩
    rw [show nI (1700 + 42 * (zL S).length) + 1 = nI (1700 + 42 * (zL S).length + 1) from n_add (b := 1), show nI (1700 + 42 * (zL S).length) + 2 = nI (1700 + 42 * (zL S).length + 2) from n_add (b := 2)]
    refine ⟨m_in h (by omega), ?_⟩
    rw [n_cl (by omega), ml_gI, tS_uA, hf.1, ml_gA0 h]
    intro G2 e2
    rw [ml_sA0 h] at e2
    subst e2
    refine ⟨m_T h, ℓ 0, m_R h, m_T h, ℓ 0, m_R h, m_V1 h, m_in h (j := 7) (by decide), m_V1 h, m_in h (by omega), ?_⟩
    rw [n_cl (by omega), ml_gA0 h]
    intro G3 e3
    rw [ml_sA0 h] at e3
    subst e3
    generalize hT : uA (uA (uA t 0 (upd (tA t 0) (1700 + 42 * (zL S).length) (nI bg))) 0 (upd (tA (uA t 0 (upd (tA t 0) (1700 + 42 * (zL S).length) (nI bg))) 0) (1700 + 42 * (zL S).length + 1) (nI l.length))) 0 _ = T
    have cT : kVr t T := by rw [← hT]; exact (kVr.u.tr kVr.u).tr kVr.u
    have v0 : tA T 0 = upd (upd (upd (tA t 0) (1700 + 42 * (zL S).length) (nI bg)) (1700 + 42 * (zL S).length + 1) (nI l.length)) (1700 + 42 * (zL S).length + 2) (nI (zn S 7)) := by
      have e7 : upd (upd (tA t 0) (1700 + 42 * (zL S).length) (nI bg)) (1700 + 42 * (zL S).length + 1) (nI l.length) 7 = nI (zn S 7) := by
        rw [pk_un (by omega), pk_un (by omega)]; exact hv.1 7 (by decide) (by decide)
      rw [← hT]
      simp only [tA_uA, if_true]
      show upd _ _ (upd (upd (tA t 0) (1700 + 42 * (zL S).length) (nI bg)) (1700 + 42 * (zL S).length + 1) (nI l.length) 7) = _
      rw [e7]
    have w1 : ∀ j, j < 1700 + 42 * (zL S).length → tA T 0 j = tA t 0 j := fun j hj => by rw [v0, pk_un (by omega), pk_un (by omega), pk_un (by omega)]
    have w2 : tA T 0 (1700 + 42 * (zL S).length) = nI bg := by rw [v0, pk_un (by omega), pk_un (by omega), pk_us]
    have w3 : tA T 0 (1700 + 42 * (zL S).length + 1) = nI l.length := by rw [v0, pk_un (by omega), pk_us]
    have w4 : tA T 0 (1700 + 42 * (zL S).length + 2) = nI (zn S 7) := by rw [v0, pk_us]
    clear v0 hT
    refine ⟨fun g' a0 x5 x6 => a0 = m ∧ x5 = nI (1700 + 42 * (zL S).length) ∧ ∃ i T', g' = mk G m ℓ T' ∧ x6 = nI i ∧ i ≤ l.length ∧ kVr t T' ∧ (∀ j, j < 1700 + 42 * (zL S).length + 3 → tA T' 0 j = tA T 0 j) ∧ ∀ j, j < i → tA T' 0 (1700 + 42 * (zL S).length + 3 + j) = nI (l.getD j 0), fun _ _ _ x6 => l.length - x6.toNatClampNeg, ⟨rfl, rfl, 0, T, rfl, rfl, by omega, cT, fun _ _ => rfl, fun j hj => absurd hj (by omega)⟩, ?_⟩
    rintro g' a0 x5 x6 ⟨rfl, rfl, i, T', rfl, rfl, hi, cT', hlow, hby⟩
    have f362 : tS T' 362 = nI l.length := (cT'.2.1 362).trans hf.1
    unfold wX10_gets_251
    rw [ml_gI, f362, n_le (by omega) (by omega)]
    refine ⟨m_T h, fun z2 => ⟨m_T h, ℓ 0, m_R h, m_V1 h, m_in h (j := 9) (by decide), m_V1 h, m_in h (j := 9) (by decide), ?_⟩, fun z2 => ⟨m_T h, ℓ 0, m_R h, m_T h, ℓ 9, m_R9 h, by rw [m_F h], by rw [m_F h]; exact n_in (show i < 42 by omega) (by decide), m_V1 h, ?_⟩⟩
    · have ei : i = l.length := by omega
      have e99 : gA (mk G a0 ℓ T') (ℓ 0) (9 : Int32).toNatClampNeg + 1 = nI ((zL S).length + 1) := by
        rw [show gA (mk G a0 ℓ T') (ℓ 0) (9 : Int32).toNatClampNeg = tA T' 0 9 from m_A h (j := 9) (by decide), hlow 9 (by omega), w1 9 (by omega), hv.2.1, nI_1]
      rw [e99, ml_gA0 h]
      intro G4 e4
      rw [ml_sA0 h] at e4
      subst e4
      refine k _ ?_ (cT'.tr kVr.u)
      rw [tA_uA, if_pos rfl, ← hbg]
      have un9 : ∀ j, j ≠ 9 → upd (tA T' 0) (9 : Int32).toNatClampNeg (nI ((zL S).length + 1)) j = tA T' 0 j := fun j hj => pk_un hj
      refine hv.app (fun j h9 hj => ?_) pk_us ?_ ?_ ?_ (fun j hj => ?_) h6 (fun q hq => (hw.2.2.2.2 q hq).2.2.2.1)
      · rw [un9 j h9, hlow j (by omega), w1 j hj]
      · rw [un9 _ (by omega), hlow _ (by omega)]; exact w2
      · rw [un9 _ (by omega), hlow _ (by omega)]; exact w3
      · rw [un9 _ (by omega), hlow _ (by omega)]; exact w4
      · have hj' : j < l.length := hj
        rw [un9 _ (by omega)]; exact hby j (by omega)
    · rw [show nI (1700 + 42 * (zL S).length) + 3 + nI i = nI (1700 + 42 * (zL S).length + 3 + i) by rw [show nI (1700 + 42 * (zL S).length) + 3 = nI (1700 + 42 * (zL S).length + 3) from n_add (b := 3), n_add]]
      refine ⟨m_in h (by omega), ?_⟩
      rw [n_cl (by omega), n_cl (by omega), ml_gA9 h, cT'.1 9 (by decide), hf.2.2.1 i (by omega), ml_gA0 h]
      intro G4 e4
      rw [ml_sA0 h] at e4
      subst e4
      refine ⟨⟨rfl, rfl, i + 1, _, rfl, nI_1 i, by omega, cT'.tr kVr.u, fun j hj => ?_, fun j hj => ?_⟩, dec_up (by omega) (by omega)⟩
      · rw [tA_uA, if_pos rfl, pk_un (by omega)]; exact hlow j hj
      · rw [tA_uA, if_pos rfl]
        by_cases e : j = i
        · subst e; rw [pk_us]
        · rw [pk_un (by omega)]; exact hby j (by omega)
  exact ⟨fun z3 => l217 _ (zn S 0 + zdl S (gdv S g)) 0 rfl (by rw [if_neg (fun e => z3 (q3.mpr e))]), fun z3 => l217 _ (zn S 0 + zdl S (gdv S g)) nb rfl (by rw [if_pos (q3.mp z3)])⟩
/-- with the fault used up: code, deed, reply -/
theorem lm_107 {kd nb : Nat} {fl : Fl} {Pr : Gt → Prop} (h : ML G m ℓ) (hv : MV (tA t 0) S) (hw : WF S) (ho : GO S g) (hg : MGs t S g) (hmw : MWs t S g) (hh : hd2 fl = (kd, nb)) (hL : (zL S).length ≤ 165) (ht : zn S 0 < 2 ^ 29) (hk : kd ≤ 4) (hn : nb ≤ 2000)
    (k : ∀ t', MV (tA t' 0) (mkS (zn S) (va_up (zrg S) (gdv S g) (arg (zrg S (gdv S g)) (acode (zro S (gdv S g)) (ztp S (gdv S g)) fl (glo g) (gwd g) (gw S g) (gwr S g)) (glo g) (gwd g) (gw S g) (gwr S g))) (zro S) (ztp S) (zdl S) (zfl S) (zrq S) (zW S) (zV S) (zcf S) (zcv S) (zct S) (zL S ++ (if (hd2 fl).1 = 1 then [] else [(abeg (zn S 0) (zdl S (gdv S g)) fl, zn S 7, abytes (zrg S (gdv S g)) (acode (zro S (gdv S g)) (ztp S (gdv S g)) fl (glo g) (gwd g) (gw S g) (gwr S g)) fl (gdv S g) (glo g) (gwd g) (gw S g) (gwr S g))]))) → kGr t t' → Pr (mk G m ℓ t')) : wX10_gets_107 X Pr (mk G m ℓ t) m (nI kd) (nI nb) := by
  obtain ⟨o1, o2, o3, o4, o5, o6, o7, o8, o9⟩ := id ho
  obtain ⟨q40, w0, w1, w2, w3, w4, w5, w6, w7, w8, _⟩ := wf_rq hw o9
  have hd1 : 1 ≤ gdv S g := w1
  have hd3 : gdv S g ≤ 3 := w2
  have hw16 : gwd g ≤ 16 := by unfold gwd; split at o4 <;> omega
  have hwr : ∀ j, gwr S g j < 65536 := fun j => wvk_lt hw.2.2.1.1 _ (by omega)
  have e1 : (hd2 fl).1 = kd := by rw [hh]
  have e2 : (hd2 fl).2 = nb := by rw [hh]
  have q2 : nI kd = 2 ↔ kd = 2 := nI_eq (b := 2) (by omega) (by decide)
  have q4 : nI kd = 4 ↔ kd = 4 := nI_eq (b := 4) (by omega) (by decide)
  unfold abeg abytes at k
  rw [e1, e2] at k
  -- by the code
  have l121 : ∀ (code : Nat), code = acode (zro S (gdv S g)) (ztp S (gdv S g)) fl (glo g) (gwd g) (gw S g) (gwr S g) → wX10_gets_121 X Pr (mk G m ℓ t) m (nI kd) (nI nb) (nI code) := by
    intro code hcode
    rw [← hcode] at k
    have hcv : code ≤ 6 := by have := acode_v (ro := zro S (gdv S g)) (top := ztp S (gdv S g)) (lo := glo g) (w := gwd g) (fl := fl) (isW := gw S g) (wr := gwr S g); omega
    have h032 : code = 0 → glo g + gwd g ≤ 32 := fun e => acode_0 (by rw [← hcode]; exact e)
    -- the reply, over a state S2 with the registers changed
    have l132 : ∀ (S2 : St) (T : Tt), S2 = urg S (va_up (zrg S) (gdv S g) (arg (zrg S (gdv S g)) code (glo g) (gwd g) (gw S g) (gwr S g))) → MV (tA T 0) S2 → kVr t T → WF S2 → wX10_gets_132 X Pr (mk G m ℓ T) m (nI kd) (nI nb) (nI code) := by
      intro S2 T hS2 hvT cT hw2
      have ho2 : GO S2 g := by rw [hS2]; exact ho
      have hg2 : MGs T S2 g := by rw [hS2]; exact hg.v cT
      have hm2 : MWs T S2 g := by rw [hS2]; exact fun hb j hj => by rw [cT.1 11 (by decide)]; exact hmw hb j hj
      have ed2 : gdv S2 g = gdv S g := by rw [hS2]; rfl
      have hrb : rbody (zrg S2 (gdv S2 g)) (gdv S2 g) (glo g) (gwd g) (gw S2 g) (gwr S2 g) code = rbody (zrg S (gdv S g)) (gdv S g) (glo g) (gwd g) (gw S g) (gwr S g) code := by
        rw [hS2]
        show rbody (va_up (zrg S) (gdv S g) (arg (zrg S (gdv S g)) code (glo g) (gwd g) (gw S g) (gwr S g)) (gdv S g)) (gdv S g) (glo g) (gwd g) (gw S g) (gwr S g) code = _
        rw [va_up_self]
        cases hb : gw S g with
        | true => exact rbody_rg
        | false =>
          have : arg (zrg S (gdv S g)) code (glo g) (gwd g) false (gwr S g) = zrg S (gdv S g) := by
            unfold arg rga
            split <;> rfl
          rw [this]
      obtain ⟨bb, bl⟩ := rb_v (rg := zrg S (gdv S g)) (d := gdv S g) (lo := glo g) (w := gwd g) (isW := gw S g) (wr := gwr S g) (code := code) ⟨by unfold gwd; omega, hw16⟩ (by omega) (by obtain ⟨_, _, _, _, _, q6, _⟩ := o6 _ o5; omega) hwr (hw.2.1 _).1 (by have := acode_v (ro := zro S (gdv S g)) (top := ztp S (gdv S g)) (lo := glo g) (w := gwd g) (fl := fl) (isW := gw S g) (wr := gwr S g); omega)
      refine ⟨m_T h, sm_repliesWith h hvT hw2 ho2 hg2 hm2 h032 hcv (fun T2 f2 c2 => ?_)⟩
      rw [hrb] at f2
      generalize seald (rbody (zrg S (gdv S g)) (gdv S g) (glo g) (gwd g) (gw S g) (gwr S g) code) = l at bb bl f2 k
      have hl0 : 5 ≤ l.length ∧ l.length ≤ 37 := by omega
      have hv2 : MV (tA T2 0) S2 := by rw [c2.1 0 (by decide)]; exact hvT
      have cT2 : kGr t T2 := cT.g.tr c2.g
      have eL : zL S2 = zL S := by rw [hS2]; rfl
      have e360 : ∀ {T3 : Tt}, kGr t T3 → tS T3 360 = nI (gdv S2 g) := fun c => by rw [ed2, c.2.1 360 (by decide)]; exact hg.2.2.1
      have fin : ∀ (T3 : Tt) (l3 : List Nat), l3 = (if kd = 2 then inv1 l (nb % l.length) else l) → MV (tA T3 0) S2 → MF T3 l3 → l3.length ≤ 37 → kGr t T3 → wX10_gets_158 X Pr (mk G m ℓ T3) m (nI kd) (nI nb) := by
        intro T3 l3 hl3 hv3 f3 hl37 c3
        refine lm_158 (S := S2) (g := g) h hv3 hw2 ⟨by omega, by omega⟩ (e360 c3) f3 hl37 (by rw [eL]; exact hL) (by rw [hS2]; exact ht) hk hn (fun t' hv' c' => k t' ?_ (c3.tr c'.g))
        rw [hl3, ed2] at hv'
        rw [hS2] at hv'
        exact hv'
      refine ⟨fun z => fin T2 l (by rw [if_neg (fun e => z (q2.mpr e))]) hv2 f2 hl0.2 cT2, fun z => ⟨m_T h, ℓ 9, m_R9 h, m_T h, ?_⟩⟩
      have hm : nb % l.length < l.length := Nat.mod_lt _ (by omega)
      rw [ml_gI, f2.1, pk_rem (by omega) (by omega) (by omega)]
      refine ⟨fun e => by have := n_inj (b := 0) (by omega) (by decide) e; omega, by rw [m_F h], by rw [m_F h]; exact n_in (show nb % l.length < 42 by omega) (by decide), by rw [m_F h], by rw [m_F h]; exact n_in (show nb % l.length < 42 by omega) (by decide), ?_⟩
      rw [n_cl (by omega), ml_gA9 h, f2.2.2.1 _ hm]
      intro G3 e3
      rw [ml_sA9 h] at e3
      subst e3
      have hil : (inv1 l (nb % l.length)).length = l.length := List.length_set
      refine fin _ (inv1 l (nb % l.length)) (by rw [if_pos (q2.mp z)]) ?_ ⟨?_, by omega, fun j hj => ?_, fun b hb => ?_⟩ (by omega) (cT2.tr ⟨fun j h1 h2 => by rw [tA_uA, if_neg h2], fun _ _ => rfl, rfl⟩)
      · rw [tA_uA, if_neg (by decide)]; exact hv2
      · rw [tS_uA, hil]; exact f2.1
      · rw [tA_uA, if_pos rfl, inv1_gd hm]
        by_cases e : j = nb % l.length
        · subst e
          rw [pk_us, if_pos rfl]
          exact n_xor (y := 1)
        · rw [pk_un e, if_neg e]; exact f2.2.2.1 j (by omega)
      · rcases List.mem_or_eq_of_mem_set hb with z | z
        · exact bb b z
        · rw [z]; exact x_lt8 (gd_b bb _) (by decide)
    have hagl : ∀ r, arg (zrg S (gdv S g)) code (glo g) (gwd g) (gw S g) (gwr S g) r < 65536 := rga_lt (hw.2.1 _).1 hwr
    refine ⟨fun z => l132 S t ?_ hv kVr.rf hw, fun z => ⟨m_T h, ?_⟩⟩
    · have ec : code ≠ 0 := fun e => z (by rw [e]; rfl)
      unfold arg
      rw [if_neg ec, va_id]
      rfl
    · have ec : code = 0 := n_inj (b := 0) (by omega) (by decide) z
      refine sm_does h hv hw ho hg hmw (h032 ec) (fun T hvT cT => l132 _ T ?_ hvT cT (rg_wf hw ?_))
      · unfold arg
        rw [if_pos ec]
      · have := hagl
        unfold arg at this
        rw [if_pos ec] at this
        exact this
  refine ⟨fun z => ⟨m_T h, sm_code h hv hw ho hg hmw (l121 _ ?_)⟩, fun z => l121 6 ?_⟩
  · unfold acode
    rw [if_neg (fun e => z (q4.mpr (e1.symm.trans e)))]
  · unfold acode
    rw [if_pos (e1.trans (q4.mp z))]
end MGETS3
