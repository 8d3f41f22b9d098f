/-! ===== the reference: its line ===== -/
def MLn (v : Nat → Int32) (L : List Rp) : Prop := v 9 = nI L.length ∧ ∀ k, k < L.length → v (1700 + 42 * k) = nI (L.getD k dr).1 ∧ v (1700 + 42 * k + 1) = nI (L.getD k dr).2.2.length ∧ v (1700 + 42 * k + 2) = nI (L.getD k dr).2.1 ∧ ∀ j, j < (L.getD k dr).2.2.length → v (1700 + 42 * k + 3 + j) = nI ((L.getD k dr).2.2.getD j 0)
theorem MV.l {v : Nat → Int32} {S : St} (h : MV v S) : MLn v (zL S) := ⟨h.2.1, h.2.2.2.2.2.2⟩
theorem MV.ln {v v' : Nat → Int32} {S : St} {L : List Rp} (h : MV v S) (h6 : ∀ d, (zfl S d).length ≤ 6) (e : ∀ j, j ≠ 9 → j < 1700 → v' j = v j) (hl : MLn v' L) : MV v' (uL S L) := by
  obtain ⟨a1, a2, a3, a4, a5, a6, a7⟩ := h
  refine ⟨fun i hi hi9 => by rw [e i hi9 (by omega)]; exact a1 i hi hi9, hl.1, fun d r' h1 h2 h3 => ?_, fun d h1 h2 => ?_, fun i hi => ?_, fun p hp => ?_, hl.2⟩
  · have hp := plc_lt ⟨h1, h2⟩ h3
    rw [e _ (by omega) (by omega), e _ (by omega) (by omega)]; exact a3 d r' h1 h2 h3
  · obtain ⟨c1, c2, c3, c4⟩ := a4 d h1 h2
    refine ⟨by rw [e _ (by omega) (by omega)]; exact c1, by rw [e _ (by omega) (by omega)]; exact c2, by rw [e _ (by omega) (by omega)]; exact c3, fun k hk => ?_⟩
    have hk6 : k < 6 := Nat.lt_of_lt_of_le hk (h6 d)
    rw [e _ (by omega) (by omega), e _ (by omega) (by omega)]; exact c4 k hk
  · obtain ⟨c1, c2, c3⟩ := a5 i hi
    exact ⟨fun k q1 q2 => by rw [e _ (by omega) (by omega)]; exact c1 k q1 q2, by rw [e _ (by omega) (by omega)]; exact c2, fun k hk => by rw [e _ (by omega) (by omega)]; exact c3 k hk⟩
  · rw [e _ (by omega) (by omega), e _ (by omega) (by omega), e _ (by omega) (by omega)]; exact a6 p hp
theorem erS_at {L : List Rp} {u : Nat} : ∀ k j, (erS L u k).1 = some j → (L.getD j dr).1 = (erS L u k).2 ∧ (erS L u k).2 ≤ u := by
  intro k
  induction k with
  | zero => intro j hj; simp [erS] at hj
  | succ k ih =>
    intro j hj
    unfold erS at hj ⊢
    by_cases e : (L.getD k dr).1 < (erS L u k).2
    · rw [if_pos e] at hj ⊢
      injection hj with hj
      subst hj
      have := erS_b (L := L) (u := u) k
      exact ⟨rfl, by show (L.getD k dr).1 ≤ u; omega⟩
    · rw [if_neg e] at hj ⊢
      exact ih j hj
theorem erS_no {L : List Rp} {u : Nat} : ∀ k, (erS L u k).1 = none → (erS L u k).2 = u + 1
  | 0, _ => rfl
  | k + 1, h => by
    unfold erS at h ⊢
    by_cases e : (L.getD k dr).1 < (erS L u k).2
    · rw [if_pos e] at h; cases h
    · rw [if_neg e] at h ⊢; exact erS_no k h
section MLINE
variable {X : Xt} {G : Gt} {m : Nat} {ℓ : Nat → Nat} {t : Tt} {S : St} {L : List Rp}
theorem sm_goes {k : Nat} {Pr : Gt → Prop} (h : ML G m ℓ) (hl : MLn (tA t 0) L) (hL : L.length ≤ 170) (hk : k < L.length) (h37 : ∀ r ∈ L, r.2.2.length ≤ 37) (kk : ∀ t', MLn (tA t' 0) (L.eraseIdx k) → (∀ j, j ≠ 9 → j < 1700 → tA t' 0 j = tA t 0 j) → kVr t t' → Pr (mk G m ℓ t')) : wX10_goes X (mk G m ℓ t) m (nI k) Pr := by
  obtain ⟨l1, l2⟩ := hl
  have hle : (L.eraseIdx k).length = L.length - 1 := List.length_eraseIdx_of_lt hk
  refine ⟨m_T h, ℓ 0, m_R h, m_V1 h, m_in h (j := 9) (by decide), m_V1 h, m_in h (j := 9) (by decide), ?_⟩
  have e9 : gA (mk G m ℓ t) (ℓ 0) (9 : Int32).toNatClampNeg - 1 = nI (L.length - 1) := by
    rw [show gA (mk G m ℓ t) (ℓ 0) (9 : Int32).toNatClampNeg = tA t 0 9 from m_A h (j := 9) (by decide), l1]
    exact n_sub (b := 1) (by omega)
  rw [e9, ml_gA0 h]
  intro G2 e2
  rw [ml_sA0 h] at e2
  subst e2
  have er : (1700 : Int32) + 42 * nI k = nI (1700 + 42 * k) := ix2 1700 42 k
  rw [er]
  refine ⟨fun g a0 x2 => a0 = m ∧ ∃ i T, g = mk G m ℓ T ∧ x2 = nI (1700 + 42 * k + i) ∧ 1700 + 42 * k + i ≤ 1700 + 42 * (L.length - 1) ∧ kVr t T ∧ tA T 0 9 = nI (L.length - 1) ∧ (∀ j, j ≠ 9 → (j < 1700 + 42 * k ∨ 1700 + 42 * k + i ≤ j) → tA T 0 j = tA t 0 j) ∧ ∀ j, 1700 + 42 * k ≤ j → j < 1700 + 42 * k + i → tA T 0 j = tA t 0 (j + 42), fun _ _ x2 => 1700 + 42 * (L.length - 1) - x2.toNatClampNeg, ⟨rfl, 0, _, rfl, rfl, by omega, kVr.u, by rw [tA_uA, if_pos rfl]; exact pk_us, fun j h9 _ => by rw [tA_uA, if_pos rfl]; exact pk_un h9, fun j h1 h2 => absurd h2 (by omega)⟩, ?_⟩
  rintro g a0 x2 ⟨rfl, i, T, rfl, rfl, hi, cT, h9, hout, hin⟩
  have e99 : (1700 : Int32) + 42 * gA (mk G a0 ℓ T) (ℓ 0) (9 : Int32).toNatClampNeg = nI (1700 + 42 * (L.length - 1)) := by
    rw [show gA (mk G a0 ℓ T) (ℓ 0) (9 : Int32).toNatClampNeg = tA T 0 9 from m_A h (j := 9) (by decide), h9]
    exact ix2 1700 42 _
  refine ⟨m_T h, ℓ 0, m_R h, m_V1 h, m_in h (j := 9) (by decide), ?_⟩
  rw [e99, n_le (by omega) (by omega)]
  refine ⟨fun z => ?_, fun z => ⟨m_T h, ℓ 0, m_R h, m_T h, ℓ 0, m_R h, m_V1 h, ?_⟩⟩
  · refine kk T ⟨by rw [hle]; exact h9, fun q hq => ?_⟩ (fun j h9 hj => hout j h9 (by omega)) cT
    rw [hle] at hq
    rw [erR_gd]
    by_cases e : q < k
    · rw [if_pos e]
      obtain ⟨c1, c2, c3, c4⟩ := l2 q (by omega)
      have h3 := h37 _ (gRd (k := q) (L := L) (by omega))
      exact ⟨by rw [hout _ (by omega) (by omega)]; exact c1, by rw [hout _ (by omega) (by omega)]; exact c2, by rw [hout _ (by omega) (by omega)]; exact c3, fun j hj => by rw [hout _ (by omega) (by omega)]; exact c4 j hj⟩
    · rw [if_neg e]
      obtain ⟨c1, c2, c3, c4⟩ := l2 (q + 1) (by omega)
      have h3 := h37 _ (gRd (k := q + 1) (L := L) (by omega))
      refine ⟨?_, ?_, ?_, fun j hj => ?_⟩
      · rw [hin _ (by omega) (by omega), show 1700 + 42 * q + 42 = 1700 + 42 * (q + 1) by omega]; exact c1
      · rw [hin _ (by omega) (by omega), show 1700 + 42 * q + 1 + 42 = 1700 + 42 * (q + 1) + 1 by omega]; exact c2
      · rw [hin _ (by omega) (by omega), show 1700 + 42 * q + 2 + 42 = 1700 + 42 * (q + 1) + 2 by omega]; exact c3
      · rw [hin _ (by omega) (by omega), show 1700 + 42 * q + 3 + j + 42 = 1700 + 42 * (q + 1) + 3 + j by omega]; exact c4 j hj
  · rw [show nI (1700 + 42 * k + i) + 42 = nI (1700 + 42 * k + i + 42) from n_add (b := 42)]
    refine ⟨m_in h (by omega), m_V1 h, m_in h (by omega), ?_⟩
    rw [n_cl (by omega), m_A h (by omega), hout _ (by omega) (by omega), ml_gA0 h]
    intro G3 e3
    rw [ml_sA0 h] at e3
    subst e3
    refine ⟨⟨rfl, i + 1, _, rfl, nI_1 _, by omega, cT.tr kVr.u, ?_, fun j hj1 hj2 => ?_, fun j hj1 hj2 => ?_⟩, dec_up (by omega) (by omega)⟩
    · rw [tA_uA, if_pos rfl, pk_un (by omega)]; exact h9
    · rw [tA_uA, if_pos rfl, pk_un (by omega)]; exact hout j hj1 (by omega)
    · rw [tA_uA, if_pos rfl]
      by_cases e : j = 1700 + 42 * k + i
      · rw [e, pk_us]
      · rw [pk_un e]; exact hin j hj1 (by omega)
theorem sm_earliest {from' u : Nat} {Pr : Int32 → Gt → Prop} (h : ML G m ℓ) (hl : MLn (tA t 0) L) (hL : L.length ≤ 170) (hB : ∀ r ∈ L, from' ≤ r.1 ∧ r.1 < 2 ^ 30) (hu : u < 2 ^ 30) (hf : from' < 2 ^ 30) (hp : Pr (oI (erl L u)) (mk G m ℓ t)) : wX10_earliest X (mk G m ℓ t) m (nI from') (nI u) Pr := by
  obtain ⟨l1, l2⟩ := hl
  refine ⟨fun g a0 x1 x2 x3 x4 => g = mk G m ℓ t ∧ a0 = m ∧ x1 = nI from' ∧ x2 = nI u ∧ ∃ k, k ≤ L.length ∧ x4 = nI k ∧ x3 = oI (erS L u k).1, fun _ _ _ _ _ x4 => L.length - x4.toNatClampNeg, ⟨rfl, rfl, rfl, rfl, 0, by omega, rfl, rfl⟩, ?_⟩
  rintro g a0 x1 x2 x3 x4 ⟨rfl, rfl, rfl, rfl, k, hk, rfl, rfl⟩
  have e9 : gA (mk G a0 ℓ t) (ℓ 0) (9 : Int32).toNatClampNeg = nI L.length := (m_A h (j := 9) (by decide)).trans l1
  refine ⟨m_T h, ℓ 0, m_R h, m_V1 h, m_in h (j := 9) (by decide), ?_⟩
  rw [e9, n_le (by omega) (by omega)]
  refine ⟨fun z => ?_, fun z => ⟨m_T h, ℓ 0, m_R h, m_V1 h, ?_⟩⟩
  · have e : k = L.length := by omega
    subst e
    exact hp
  · have z' : k < L.length := by omega
    obtain ⟨b1, b2⟩ := hB _ (gRd (k := k) (L := L) z')
    have dec := dec_up (L := L.length) z' (by omega)
    rw [show (1700 : Int32) + 42 * nI k = nI (1700 + 42 * k) from ix2 1700 42 k]
    refine ⟨m_in h (by omega), ?_⟩
    rw [m_A h (by omega), (l2 k z').1]
    refine s_in.mpr ?_
    have stay : ¬ (L.getD k dr).1 < (erS L u k).2 → ∃ k', k' ≤ L.length ∧ nI k + 1 = nI k' ∧ oI (erS L u k).1 = oI (erS L u k').1 := fun hn => ⟨k + 1, by omega, nI_1 k, by
      have e : erS L u (k + 1) = erS L u k := by
        show (if (L.getD k dr).1 < (erS L u k).2 then _ else _) = _
        rw [if_neg hn]
      rw [e]⟩
    have take : (L.getD k dr).1 < (erS L u k).2 → ∃ k', k' ≤ L.length ∧ nI k + 1 = nI k' ∧ nI k = oI (erS L u k').1 := fun hn => ⟨k + 1, by omega, nI_1 k, by
      have e : erS L u (k + 1) = (some k, (L.getD k dr).1) := by
        show (if (L.getD k dr).1 < (erS L u k).2 then _ else _) = _
        rw [if_pos hn]
      rw [e]; rfl⟩
    by_cases hin : (L.getD k dr).1 ≤ u
    · rw [bI_t ⟨(n_le (by omega) (by omega)).mpr b1, (n_le (by omega) (by omega)).mpr hin⟩]
      refine ⟨fun z => absurd z (by decide), fun _ => ?_⟩
      cases ho : (erS L u k).1 with
      | none =>
        have eb := erS_no k ho
        exact ⟨fun _ => ⟨⟨rfl, rfl, rfl, rfl, take (by omega)⟩, dec⟩, fun z => absurd (by decide) z⟩
      | some i =>
        have ib := erS_i k i ho
        obtain ⟨eb, eu⟩ := erS_at k i ho
        refine ⟨fun z => absurd z (n_neg (by omega)), fun _ => ⟨m_T h, ℓ 0, m_R h, m_V1 h, ?_⟩⟩
        show vp_in ((1700 : Int32) + 42 * nI i) _ ∧ (gA _ (ℓ 0) ((1700 : Int32) + 42 * nI i).toNatClampNeg ≤ _ → _) ∧ (¬ gA _ (ℓ 0) ((1700 : Int32) + 42 * nI i).toNatClampNeg ≤ _ → _)
        rw [show (1700 : Int32) + 42 * nI i = nI (1700 + 42 * i) from ix2 1700 42 i]
        refine ⟨m_in h (by omega), ?_⟩
        rw [m_A h (by omega), (l2 i (by omega)).1, n_le (by omega) (by omega)]
        refine ⟨fun z => ⟨⟨rfl, rfl, rfl, rfl, ?_⟩, dec⟩, fun z => ⟨⟨rfl, rfl, rfl, rfl, take (by omega)⟩, dec⟩⟩
        have := stay (by omega)
        rw [ho] at this
        exact this
    · rw [bI_f (fun e => hin ((n_le (by omega) (by omega)).mp e.2))]
      refine ⟨fun _ => ⟨⟨rfl, rfl, rfl, rfl, stay ?_⟩, dec⟩, fun z => absurd rfl z⟩
      have := erS_b (L := L) (u := u) k
      cases ho : (erS L u k).1 with
      | none => omega
      | some i =>
        obtain ⟨eb, eu⟩ := erS_at k i ho
        omega
theorem sm_fits {g : Gp} {k : Nat} {Pr : Int32 → Gt → Prop} (h : ML G m ℓ) (hl : MLn (tA t 0) L) (hL : L.length ≤ 170) (hk : k < L.length) (hfm : fmt (L.getD k dr).2.2) (hw : WF S) (ho : GO S g) (hg : MGs t S g) (hmw : MWs t S g) (y : fitsB (L.getD k dr).2.2 (gfb S g) = true → Pr 1 (mk G m ℓ t)) (n : ¬ fitsB (L.getD k dr).2.2 (gfb S g) = true → Pr 0 (mk G m ℓ t)) : wX10_fits X (mk G m ℓ t) m (nI k) Pr := by
  obtain ⟨l1, l2⟩ := hl
  obtain ⟨o1, o2, o3, o4, o5, o6, o7, o8, o9⟩ := id ho
  obtain ⟨q40, w0, w1, w2, w3, w4, w5, w6, w7, w8, _⟩ := wf_rq hw o9
  have hw16 : gwd g ≤ 16 := by unfold gwd; split at o4 <;> omega
  have hw1 : 1 ≤ gwd g := by unfold gwd; omega
  have hwr : ∀ j, gwr S g j < 65536 := fun j => wvk_lt hw.2.2.1.1 _ (by omega)
  obtain ⟨t1, t2, t3, t4, t5, t6⟩ := fby_tells (d := gdv S g) (lo := glo g) (isW := gw S g) (wr := gwr S g) hw1
  obtain ⟨r0, r1, r2, r3⟩ := l2 k hk
  obtain ⟨f1, f2, f3, f4, f5, f6⟩ := hfm
  rw [fitsB_iff] at y n
  unfold fitsTo at y n
  have es : gfb S g = fby (gdv S g) (glo g) (gwd g) (gw S g) (gwr S g) := rfl
  rw [es, t1, t2, t3, t5] at y n
  generalize (L.getD k dr).2.2 = b at *
  have fv := fnc_v (gw S g) (gwd g)
  have b0 := gd_b f3 0
  have b1 := gd_b f3 1
  have b2 := gd_b f3 2
  have b3 := gd_b f3 3
  have b4 := gd_b f3 4
  have b5 := gd_b f3 5
  have fn : ∀ {P : Int32 → Gt → Prop}, P (nI (fnc (gw S g) (gwd g))) (mk G m ℓ t) → wX10_function X (mk G m ℓ t) m P := fun p => sm_function h hg w6 (by omega) (by omega) p
  have ea : (1700 : Int32) + 42 * nI k + 3 = nI (1700 + 42 * k + 3) := ix3 1700 42 3 k
  have ea1 : nI (1700 + 42 * k + 3) - 2 = nI (1700 + 42 * k + 1) := n_sub (b := 2) (by omega)
  have hdv : gdv S g ≤ 3 := w2
  unfold wX10_fits
  rw [ea, ea1]
  refine ⟨m_T h, ℓ 0, m_R h, m_V1 h, m_in h (by omega), ?_⟩
  rw [m_A h (by omega), r1]
  refine ⟨fun g' a0 x2 x3 x4 x5 => g' = mk G m ℓ t ∧ a0 = m ∧ x2 = nI (1700 + 42 * k + 3) ∧ x3 = nI b.length ∧ ∃ i, i ≤ b.length ∧ x5 = nI i ∧ x4 = nI (crcN 65535 (b.take i)), fun _ _ _ _ _ x5 => b.length - x5.toNatClampNeg, ⟨rfl, rfl, rfl, rfl, 0, by omega, rfl, rfl⟩, ?_⟩
  rintro g' a0 x2 x3 x4 x5 ⟨rfl, rfl, rfl, rfl, i, hi, rfl, rfl⟩
  have hci : crcN 65535 (b.take i) < 65536 := crcN_lt _ _ (by decide) (fun q hq => f3 q (List.mem_of_mem_take hq))
  have rd : ∀ j, j < b.length → gA (mk G a0 ℓ t) (ℓ 0) (nI (1700 + 42 * k + 3 + j)).toNatClampNeg = nI (b.getD j 0) := fun j hj => (m_A h (by omega)).trans (r3 j hj)
  unfold wX10_fits_27
  rw [n_le (by omega) (by omega)]
  refine ⟨fun z => ?_, fun z => ⟨m_T h, ℓ 0, m_R h, m_V1 h, ?_⟩⟩
  · have ei : i = b.length := by omega
    subst ei
    rw [List.take_length] at hci ⊢
    have c1 : nI (1700 + 42 * k + 3) + 1 = nI (1700 + 42 * k + 3 + 1) := n_add (b := 1)
    have c2 : nI (1700 + 42 * k + 3) + 2 = nI (1700 + 42 * k + 3 + 2) := n_add (b := 2)
    have r00 : gA (mk G a0 ℓ t) (ℓ 0) (nI (1700 + 42 * k + 3)).toNatClampNeg = nI (b.getD 0 0) := rd 0 (by omega)
    refine ⟨fun z2 => n (fun e => z2 (by rw [e.2.2]; rfl)), fun z2 => ⟨m_T h, ℓ 0, m_R h, m_V1 h, m_in h (by omega), m_T h, ?_⟩⟩
    have crc0 : crcN 65535 b = 0 := n_inj (b := 0) (by omega) (by decide) z2
    rw [r00, ml_gI, hg.2.2.1, nI_eq (by omega) (by omega)]
    refine ⟨fun z3 => ⟨m_T h, ℓ 0, m_R h, m_V1 h, ?_⟩, fun z3 => n (fun e => z3 e.1)⟩
    rw [c1]
    refine ⟨m_in h (by omega), m_T h, ?_⟩
    rw [rd 1 (by omega)]
    refine fn ?_
    rw [show nI (fnc (gw S g) (gwd g)) + 128 = nI (fnc (gw S g) (gwd g) + 128) from n_add (b := 128), nI_eq (by omega) (by omega)]
    refine ⟨fun z4 => ⟨m_T h, ℓ 0, m_R h, m_V1 h, m_in h (by omega), m_T h, ?_⟩, fun z4 => y ⟨z3, Or.inl z4, crc0⟩⟩
    rw [rd 1 (by omega)]
    refine fn ?_
    rw [nI_eq (by omega) (by omega)]
    refine ⟨fun z5 => ⟨m_T h, ?_⟩, fun z5 => n (fun e => by rcases e.2.1 with q | q; exact z4 q; exact z5 q.1)⟩
    rw [ml_gI, hg.2.2.2.1]
    refine ⟨fun z6 => ⟨m_T h, ?_⟩, fun z6 => ⟨m_T h, ℓ 0, m_R h, m_V1 h, ?_⟩⟩
    · -- a write
      have e4 : zrq S (gq g) 4 = 1 := by
        rcases (show zrq S (gq g) 4 = 0 ∨ zrq S (gq g) 4 = 1 by omega) with e | e
        · exact absurd (by rw [e]; rfl) z6
        · exact e
      have hb : gw S g = true := gw_iff.mpr e4
      have fn3 : fnc (gw S g) (gwd g) ≠ 3 := by
        unfold fnc
        rw [if_pos hb]
        split <;> omega
      have len8 : b.length = 8 := f6 (by omega)
      have wd2 : wd b 2 = b.getD 2 0 * 256 + b.getD 3 0 := wd_i (by omega)
      have wd4 : wd b 4 = b.getD 4 0 * 256 + b.getD 5 0 := wd_i (by omega)
      have l175 : ∀ (x : Nat), x < 65536 → x = (if (gw S g && gwd g == 1) = true then gwr S g 0 else gwd g) → wX10_fits_175 X Pr (mk G a0 ℓ t) a0 (nI (1700 + 42 * k + 3)) (nI x) := by
        intro x hx hxe
        unfold wX10_fits_175
        rw [c2, show nI (1700 + 42 * k + 3) + 3 = nI (1700 + 42 * k + 3 + 3) from n_add (b := 3), show nI (1700 + 42 * k + 3) + 4 = nI (1700 + 42 * k + 3 + 4) from n_add (b := 4), show nI (1700 + 42 * k + 3) + 5 = nI (1700 + 42 * k + 3 + 5) from n_add (b := 5)]
        refine ⟨m_T h, ℓ 0, m_R h, m_V1 h, m_in h (by omega), m_T h, ℓ 0, m_R h, m_V1 h, m_in h (by omega), m_T h, ?_⟩
        rw [rd 2 (by omega), rd 3 (by omega), show (256 : Int32) * nI (b.getD 2 0) = nI (256 * b.getD 2 0) from pk_mul 256 _, n_add, ml_gI, hg.2.2.2.2.1, nI_eq (by omega) (by omega)]
        have second : ∀ (q : wd b 2 = glo g), wd b 4 = x → Pr 1 (mk G a0 ℓ t) := fun q1 q2 => y ⟨z3, Or.inr ⟨z5, Or.inr ⟨fn3, q1, by rw [q2, hxe]⟩⟩, crc0⟩
        refine ⟨fun z7 => n (fun e => ?_), fun z7 => ⟨m_T h, ℓ 0, m_R h, m_V1 h, m_in h (by omega), m_T h, ℓ 0, m_R h, m_V1 h, m_in h (by omega), ?_⟩⟩
        · rcases e.2.1 with q | q
          · exact z4 q
          · rcases q.2 with q | q
            · exact fn3 q.1
            · have := q.2.1; omega
        · rw [rd 4 (by omega), rd 5 (by omega), show (256 : Int32) * nI (b.getD 4 0) = nI (256 * b.getD 4 0) from pk_mul 256 _, n_add, nI_eq (by omega) (by omega)]
          refine ⟨fun z8 => n (fun e => ?_), fun z8 => second (by omega) (by omega)⟩
          rcases e.2.1 with q | q
          · exact z4 q
          · rcases q.2 with q | q
            · exact fn3 q.1
            · have := q.2.2
              rw [← hxe] at this
              omega
      refine fn ⟨fun z7 => ⟨m_T h, m_T h, ?_⟩, fun z7 => ⟨m_T h, ℓ 11, m_RW h, by rw [m_W h], by rw [m_W h]; exact n_in (i := 0) (by decide) (by decide), ?_⟩⟩
      · have n1 : gwd g ≠ 1 := fun e => z7 (by unfold fnc; rw [if_pos hb, if_pos e]; rfl)
        rw [ml_gI, ml_gI, hg.2.2.2.2.1, hg.2.2.2.2.2, n_sub (by omega)]
        exact l175 (gwd g) (by omega) (by rw [if_neg (by simp [n1])])
      · have e6 : fnc (gw S g) (gwd g) = 6 := n_inj (b := 6) (by omega) (by decide) z7
        have e1 : gwd g = 1 := by
          unfold fnc at e6
          rw [if_pos hb] at e6
          by_cases e : gwd g = 1
          · exact e
          · rw [if_neg e] at e6; exact absurd e6 (by decide)
        rw [ml_gA11 h, show (0 : Int32).toNatClampNeg = 0 from rfl, hmw hb 0 (by omega)]
        exact l175 _ (hwr 0) (by rw [if_pos (by simp [hb, e1])])
    · -- a read
      have e4 : zrq S (gq g) 4 = 0 := n_inj (b := 0) (by omega) (by decide) z6
      have hb : gw S g = false := by
        cases hb : gw S g with
        | false => rfl
        | true => have := gw_iff.mp hb; omega
      have ef : fnc (gw S g) (gwd g) = 3 := by unfold fnc; rw [hb]; rfl
      rw [c2]
      refine ⟨m_in h (by omega), m_T h, m_T h, ?_⟩
      have gwn : gwd g = ghi g - glo g := rfl
      rw [rd 2 (by omega), ml_gI, ml_gI, hg.2.2.2.2.1, hg.2.2.2.2.2, n_sub (by omega), show (2 : Int32) * nI (ghi g - glo g) = nI (2 * (ghi g - glo g)) from pk_mul 2 _, nI_eq (by omega) (by omega)]
      rw [hb] at y n
      refine ⟨fun z7 => n (fun e => ?_), fun z7 => y ⟨z3, Or.inr ⟨by rw [← hb]; exact z5, Or.inl ⟨rfl, by simpa [gwn] using z7⟩⟩, crc0⟩⟩
      rcases e.2.1 with q | q
      · exact z4 (by rw [hb]; exact q)
      · rcases q.2 with q | q
        · have q2 := q.2
          rw [if_neg (show ¬ (false && gwd g == 1) = true by simp)] at q2
          omega
        · exact q.1 rfl
  · have z' : i < b.length := by omega
    rw [n_add]
    refine ⟨m_in h (by omega), ?_⟩
    rw [rd i z']
    have hb := gd_b f3 i
    refine sp_stirred ⟨⟨rfl, rfl, rfl, rfl, i + 1, by omega, nI_1 i, ?_⟩, dec_up z' (by omega)⟩
    rw [n_xor, c8_n (x_lt hci (by omega)), tk_s z', crcN_app]
end MLINE
