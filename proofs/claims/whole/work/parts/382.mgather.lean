/-! ===== the reference: gathering (pf_lI, pf_shr began as kit/laws/BITS.to-paste) ===== -/
theorem pf_lI {a : Nat} (h : a < 2 ^ 63) : (lN a).toInt = (a : Int) := lg_ofNat_toInt h
theorem pf_shr {a d : Nat} {D : Int64} (hD : (D.toBitVec.smod 64).toNat = d) (h : a < 2 ^ 62) : lN a >>> D = lN (a / 2 ^ d) := by
  have hd : a / 2 ^ d ≤ a := Nat.div_le_self _ _
  apply Int64.toInt_inj.mp
  have e : (lN a >>> D).toInt = (lN a).toInt >>> d := by
    rw [← hD]
    exact BitVec.toInt_sshiftRight ..
  rw [e, Int.shiftRight_eq_div_pow, pf_lI (by omega), pf_lI (by omega)]
  rfl
theorem sm63 : ∀ k, k < 64 → ((((nI k).toInt64 &&& 63).toBitVec.smod 64).toNat) = k := by decide +kernel
theorem a_bit {M i : Nat} (hM : M < 2 ^ 40) (hi : i < 40) : (lN M >>> ((nI i).toInt64 &&& 63)) &&& (1 : Int64) = lN (M / 2 ^ i % 2) := by
  rw [pf_shr (a := M) (d := i) (sm63 i (by omega)) (by omega), wb_a1 (Nat.lt_of_le_of_lt (Nat.div_le_self _ _) (by omega))]
theorem a_0 {M i : Nat} (hM : M < 2 ^ 40) (hi : i < 40) : lg_cmp ((lN M >>> ((nI i).toInt64 &&& 63)) &&& (1 : Int64)) (0 : Int64) = 0 ↔ mb M i = false := by
  rw [lg_cmp_eq, a_bit hM hi, show (0 : Int64) = lN 0 from rfl, lN_eq (by omega) (by omega), mb_0]
theorem a_1 {M i : Nat} (hM : M < 2 ^ 40) (hi : i < 40) : lg_cmp ((lN M >>> ((nI i).toInt64 &&& 63)) &&& (1 : Int64)) (1 : Int64) = 0 ↔ mb M i = true := by
  rw [lg_cmp_eq, a_bit hM hi, l_one, lN_eq (by omega) (by omega), mb_1]
/-- the group that the reference has gathered -/
def MG (t : Tt) (M q dv iw lo hi : Nat) : Prop := tJ t = lN M ∧ tS t 356 = nI q ∧ tS t 360 = nI dv ∧ tS t 359 = nI iw ∧ tS t 357 = nI lo ∧ tS t 358 = nI hi
section MGATHER
variable {X : Xt} {G : Gt} {m : Nat} {ℓ : Nat → Nat} {t : Tt} {S : St} {M q lo hi : Nat}
theorem sm_isHeldBack {i : Nat} {Pr : Int32 → Gt → Prop} (h : ML G m ℓ) (hv : MV (tA t 0) S) (hw : WF S) (hq : q < zn S 6) (hi' : i < zn S 6) (hM : M < 2 ^ 40) (hg : MG t M q (zrq S q 1) (zrq S q 4) lo hi) (y : held (zrq S) q M i → Pr 1 (mk G m ℓ t)) (n : ¬ held (zrq S) q M i → Pr 0 (mk G m ℓ t)) : wX10_isHeldBack X (mk G m ℓ t) m (nI i) Pr := by
  obtain ⟨i40, _⟩ := wf_rq hw hi'
  obtain ⟨q40, _, _, q1, _, _, _, q4, _⟩ := wf_rq hw hq
  refine ⟨fun g a0 x1 x2 x3 => g = mk G m ℓ t ∧ a0 = m ∧ x1 = nI i ∧ ∃ w c, x3 = nI w ∧ w ≤ i ∧ x2 = nI c ∧ c ≤ 1 ∧ (c = 1 ↔ ∃ v, v < w ∧ bars (zrq S) q M i v), fun _ _ _ _ x3 => i - x3.toNatClampNeg, ⟨rfl, rfl, rfl, 0, 0, rfl, by omega, rfl, by omega, ⟨fun e => absurd e (by decide), fun ⟨v, hv, _⟩ => absurd hv (by omega)⟩⟩, ?_⟩
  rintro g a0 x1 x2 x3 ⟨rfl, rfl, rfl, w, c, rfl, hw', rfl, hc, hcc⟩
  refine ⟨fun z => ?_, fun z => ⟨m_T h, ?_⟩⟩
  · have z' : i ≤ w := (n_le (by omega) (by omega)).mp z
    have ew : w = i := by omega
    subst ew
    rcases (show c = 0 ∨ c = 1 by omega) with e | e <;> subst e
    · exact ⟨Or.inl rfl, n (fun q => absurd (hcc.mpr q) (by decide))⟩
    · exact ⟨Or.inr rfl, y (hcc.mp rfl)⟩
  · have z' : w < i := Nat.lt_of_not_le (fun e => z ((n_le (by omega) (by omega)).mpr e))
    have hwm : w < zn S 6 := by omega
    obtain ⟨w40, w0, w1, w2, w3, w4, w5, w6, w7, w8, _⟩ := wf_rq hw hwm
    have rd := (hv.2.2.2.2.1 w w40).1
    have dec := dec_up (L := i) z' (by omega)
    have e1 : (280 : Int32) + 12 * nI w + 1 = nI (280 + 12 * w + 1) := ix3 280 12 1 w
    have e4 : (280 : Int32) + 12 * nI w + 4 = nI (280 + 12 * w + 4) := ix3 280 12 4 w
    -- the next turn, with what was found
    have nx : ∀ c', c' ≤ 1 → (c' = 1 ↔ (c = 1 ∨ bars (zrq S) q M i w)) → (mk G a0 ℓ t = mk G a0 ℓ t ∧ a0 = a0 ∧ nI i = nI i ∧ ∃ w' c'', nI w + 1 = nI w' ∧ w' ≤ i ∧ nI c' = nI c'' ∧ c'' ≤ 1 ∧ (c'' = 1 ↔ ∃ v, v < w' ∧ bars (zrq S) q M i v)) ∧ i - (nI w + 1).toNatClampNeg < i - (nI w).toNatClampNeg := fun c' hc' hcc' => ⟨⟨rfl, rfl, rfl, w + 1, c', nI_1 w, by omega, rfl, hc', hcc'.trans ⟨fun e => by
      rcases e with e | e
      · obtain ⟨v, h1, h2⟩ := hcc.mp e
        exact ⟨v, by omega, h2⟩
      · exact ⟨w, by omega, e⟩, fun ⟨v, h1, h2⟩ => by
      by_cases ev : v = w
      · subst ev; exact Or.inr h2
      · exact Or.inl (hcc.mpr ⟨v, by omega, h2⟩)⟩⟩, dec⟩
    -- with sx: whether it counts
    have l62 : ∀ (sx : Nat), sx ≤ 1 → (sx = 1 ↔ zrq S w 5 = 0 ∧ zrq S w 1 = zrq S q 1 ∧ mb M w = false ∧ ovl (zrq S) w i) → wX10_isHeldBack_62 X Pr (fun G' a0' x1' x2' x3' => (G' = mk G a0 ℓ t ∧ a0' = a0 ∧ x1' = nI i ∧ ∃ w c, x3' = nI w ∧ w ≤ i ∧ x2' = nI c ∧ c ≤ 1 ∧ (c = 1 ↔ ∃ v, v < w ∧ bars (zrq S) q M i v)) ∧ i - x3'.toNatClampNeg < i - (nI w).toNatClampNeg) (mk G a0 ℓ t) a0 (nI i) (nI c) (nI w) (nI sx) := by
      intro sx hsx hss
      refine ⟨fun z => nx 1 (by decide) ⟨fun _ => ?_, fun _ => rfl⟩, fun z => ⟨fun z2 => nx 0 (by decide) ⟨fun e => absurd e (by decide), fun e => ?_⟩, fun z2 => ⟨m_T h, ℓ 0, m_R h, s_requestAt.mpr ?_⟩⟩⟩
      · rcases (show c = 0 ∨ c = 1 by omega) with e | e
        · exact absurd (by rw [e]; rfl) z
        · exact Or.inl e
      · have ec : c = 0 := n_inj (b := 0) (by omega) (by decide) z
        have es : sx = 0 := n_inj (b := 0) (by omega) (by decide) z2
        rcases e with e | e
        · omega
        · have := hss.mpr ⟨e.1, e.2.1, e.2.2.1, e.2.2.2.1⟩
          omega
      · have ec : c = 0 := n_inj (b := 0) (by omega) (by decide) z
        have es : sx = 1 := by
          rcases (show sx = 0 ∨ sx = 1 by omega) with e | e
          · exact absurd (by rw [e]; rfl) z2
          · exact e
        obtain ⟨s1, s2, s3, s4⟩ := hss.mp es
        rw [e4]
        refine ⟨m_V1 h, m_in h (by omega), ?_⟩
        rw [m_A h (by omega), rd 4 (by decide) (by decide), ml_gI, hg.2.2.2.1]
        refine ⟨fun z3 => nx 1 (by decide) ⟨fun _ => Or.inr ⟨s1, s2, s3, s4, Or.inl (n_inj (b := 1) (by omega) (by decide) z3)⟩, fun _ => rfl⟩, fun z3 => ⟨m_T h, fun z4 => nx 0 (by decide) ⟨fun e => absurd e (by decide), fun e => ?_⟩, fun z4 => nx 1 (by decide) ⟨fun _ => Or.inr ⟨s1, s2, s3, s4, Or.inr ?_⟩, fun _ => rfl⟩⟩⟩
        · have e4' : zrq S q 4 = 0 := n_inj (b := 0) (by omega) (by decide) z4
          rcases e with e | e
          · omega
          · rcases e.2.2.2.2 with e5 | e5
            · exact absurd (by rw [e5]; rfl) z3
            · omega
        · rcases (show zrq S q 4 = 0 ∨ zrq S q 4 = 1 by omega) with e | e
          · exact absurd (by rw [e]; rfl) z4
          · exact e
    refine sm_isWaiting h hv w40 (by omega) (fun q5 => ⟨fun z => absurd z (by decide), fun _ => ⟨m_T h, ℓ 0, m_R h, s_requestAt.mpr ?_⟩⟩) (fun q5 => ⟨fun _ => l62 0 (by decide) ⟨fun e => absurd e (by decide), fun e => absurd e.1 q5⟩, fun z => absurd rfl z⟩)
    rw [e1]
    refine ⟨m_V1 h, m_in h (by omega), m_T h, ?_⟩
    rw [m_A h (by omega), rd 1 (by decide) (by decide), ml_gI, hg.2.2.1, ml_gJ, hg.1]
    refine ⟨fun z2 => l62 0 (by decide) ⟨fun e => absurd e (by decide), fun e => absurd (by rw [e.2.1]) z2⟩, fun z2 => ⟨m_T h, ?_⟩⟩
    have ed : zrq S w 1 = zrq S q 1 := n_inj (by omega) (by omega) z2
    rw [a_0 hM w40]
    refine ⟨fun z3 => l62 0 (by decide) ⟨fun e => absurd e (by decide), fun e => absurd e.2.2.1 z3⟩, fun z3 => ⟨m_T h, sm_overlap h hv hw hwm hi' (fun o => ⟨fun z => absurd z (by decide), fun _ => l62 1 (by decide) ⟨fun _ => ⟨q5, ed, z3, o⟩, fun _ => rfl⟩⟩) (fun o => ⟨fun _ => l62 0 (by decide) ⟨fun e => absurd e (by decide), fun e => absurd e.2.2.2 o⟩, fun z => absurd rfl z⟩)⟩⟩
theorem sm_gathers {Pr : Gt → Prop} (h : ML G m ℓ) (hv : MV (tA t 0) S) (hw : WF S) (hq : q < zn S 6) (hq5 : zrq S q 5 = 0) (k : ∀ t', (∀ j, tA t' j = tA t j) → smL t t' → tS t' 362 = tS t 362 → MG t' (grpS S q).1 q (zrq S q 1) (zrq S q 4) (grpS S q).2.1 (grpS S q).2.2 → Pr (mk G m ℓ t')) : wX10_gathers X (mk G m ℓ t) m (nI q) Pr := by
  obtain ⟨q40, w0, w1, w2, w3, w4, w5, w6, w7, w8, _⟩ := wf_rq hw hq
  have h40 : zn S 6 ≤ 40 := hw.1.2.2.2.2.2.2.1
  have h51 : zn S 5 ≤ 1 := hw.1.2.2.2.2.2.1
  have rd := (hv.2.2.2.2.1 q q40).1
  have e1 : (280 : Int32) + 12 * nI q + 1 = nI (280 + 12 * q + 1) := ix3 280 12 1 q
  have e2 : (280 : Int32) + 12 * nI q + 2 = nI (280 + 12 * q + 2) := ix3 280 12 2 q
  have e4 : (280 : Int32) + 12 * nI q + 4 = nI (280 + 12 * q + 4) := ix3 280 12 4 q
  have loop : ∀ (T : Tt), (∀ j, tA T j = tA t j) → smL t T → tS T 362 = tS t 362 → MG T (2 ^ q) q (zrq S q 1) (zrq S q 4) (zrq S q 2) (zrq S q 2 + zrq S q 3) → ∃ (I : Gt → Nat → Int32 → Prop) (μ : Gt → Nat → Int32 → Nat), I (mk G m ℓ T) m (nI q + 1) ∧ ∀ (G : Gt) (a0 : Nat) (x3 : Int32), I G a0 x3 → wX10_gathers_75 X Pr (fun G' a0' x3' => I G' a0' x3' ∧ μ G' a0' x3' < μ G a0 x3) G a0 x3 := by
    intro T hT hsm h362 hmg
    refine ⟨fun g a0 x3 => a0 = m ∧ ∃ n T', g = mk G m ℓ T' ∧ x3 = nI (q + 1 + n) ∧ q + 1 + n ≤ zn S 6 ∧ (n = 0 ∨ zn S 5 = 1) ∧ (∀ j, tA T' j = tA t j) ∧ smL t T' ∧ tS T' 362 = tS t 362 ∧ MG T' (gat (zrq S) q n).1 q (zrq S q 1) (zrq S q 4) (gat (zrq S) q n).2.1 (gat (zrq S) q n).2.2, fun _ _ x3 => zn S 6 - x3.toNatClampNeg, ⟨rfl, 0, T, rfl, nI_1 q, by omega, Or.inl rfl, hT, hsm, h362, hmg⟩, ?_⟩
    rintro g a0 x3 ⟨rfl, n, T', rfl, rfl, hn, hn5, hT', hsm', h362', hg⟩
    have hv' : MV (tA T' 0) S := by rw [hT' 0]; exact hv
    have e6 : gA (mk G a0 ℓ T') (ℓ 0) (6 : Int32).toNatClampNeg = nI (zn S 6) := (m_A h (j := 6) (by decide)).trans (hv'.1 6 (by decide) (by decide))
    have e5 : gA (mk G a0 ℓ T') (ℓ 0) (5 : Int32).toNatClampNeg = nI (zn S 5) := (m_A h (j := 5) (by decide)).trans (hv'.1 5 (by decide) (by decide))
    have fin : (zn S 5 = 1 → n = zn S 6 - (q + 1)) → (zn S 5 ≠ 1 → n = 0) → Pr (mk G a0 ℓ T') := fun f1 f0 => by
      have eg : grpS S q = gat (zrq S) q n := by
        unfold grpS
        by_cases e : zn S 5 = 1
        · rw [if_pos e, ← f1 e]
        · rw [if_neg e, f0 e]
      rw [eg] at k
      exact k T' hT' hsm' h362' hg
    refine ⟨m_T h, ℓ 0, m_R h, m_V1 h, m_in h (j := 6) (by decide), ?_⟩
    rw [e6]
    refine ⟨fun z => ?_, fun z => ⟨m_T h, ℓ 0, m_R h, m_V1 h, m_in h (j := 5) (by decide), ?_⟩⟩
    · have z' : zn S 6 ≤ q + 1 + n := (n_le (by omega) (by omega)).mp z
      exact fin (fun _ => by omega) (fun e => by omega)
    · have z' : q + 1 + n < zn S 6 := Nat.lt_of_not_le (fun e => z ((n_le (by omega) (by omega)).mpr e))
      rw [e5]
      refine ⟨fun z5 => ?_, fun z5 => s_requestAt.mpr ⟨m_T h, ?_⟩⟩
      · have : zn S 5 ≠ 1 := fun e => z5 (by rw [e]; rfl)
        exact fin (fun e => absurd e this) (fun _ => by omega)
      have j5 : zn S 5 = 1 := n_inj (b := 1) (by omega) (by decide) z5
      obtain ⟨i40, i0, i1, i2, i3, i4, i5, i6, i7, i8, _⟩ := wf_rq hw z'
      obtain ⟨o1, o2, o3, _⟩ := gat_ok hw.2.2.1.1 hq5 n (by omega)
      have hMl := gat_lt (R := zrq S) (q := q) n
      have hM40 : (gat (zrq S) q n).1 < 2 ^ 40 := Nat.lt_of_lt_of_le hMl (pw40 (by omega))
      have rdi := (hv'.2.2.2.2.1 (q + 1 + n) i40).1
      have dec := dec_up (L := zn S 6) z' (by omega)
      have f1 : (280 : Int32) + 12 * nI (q + 1 + n) + 1 = nI (280 + 12 * (q + 1 + n) + 1) := ix3 280 12 1 _
      have f2 : (280 : Int32) + 12 * nI (q + 1 + n) + 2 = nI (280 + 12 * (q + 1 + n) + 2) := ix3 280 12 2 _
      have f4 : (280 : Int32) + 12 * nI (q + 1 + n) + 4 = nI (280 + 12 * (q + 1 + n) + 4) := ix3 280 12 4 _
      obtain ⟨g1, g2, g3, g4, g5, g6⟩ := id hg
      have skip : ¬ (fitB (zrq S) q (gat (zrq S) q n).2.1 (gat (zrq S) q n).2.2 (q + 1 + n) ∧ ¬ held (zrq S) q (gat (zrq S) q n).1 (q + 1 + n)) → (a0 = a0 ∧ ∃ n' T'', mk G a0 ℓ T' = mk G a0 ℓ T'' ∧ nI (q + 1 + n) + 1 = nI (q + 1 + n') ∧ q + 1 + n' ≤ zn S 6 ∧ (n' = 0 ∨ zn S 5 = 1) ∧ (∀ j, tA T'' j = tA t j) ∧ smL t T'' ∧ tS T'' 362 = tS t 362 ∧ MG T'' (gat (zrq S) q n').1 q (zrq S q 1) (zrq S q 4) (gat (zrq S) q n').2.1 (gat (zrq S) q n').2.2) ∧ zn S 6 - (nI (q + 1 + n) + 1).toNatClampNeg < zn S 6 - (nI (q + 1 + n)).toNatClampNeg := fun hno => ⟨⟨rfl, n + 1, T', rfl, nI_1 _, by omega, Or.inr j5, hT', hsm', h362', by rw [gat_s, gstep_n hno]; exact hg⟩, dec⟩
      -- behind the question whether it may
      have l183 : ∀ (mm : Nat), mm ≤ 1 → (mm = 1 ↔ zrq S (q + 1 + n) 5 = 0 ∧ zrq S (q + 1 + n) 1 = zrq S q 1 ∧ zrq S (q + 1 + n) 4 = zrq S q 4 ∧ zrq S (q + 1 + n) 2 ≤ (gat (zrq S) q n).2.2 ∧ (gat (zrq S) q n).2.1 ≤ zrq S (q + 1 + n) 2 + zrq S (q + 1 + n) 3) → wX10_gathers_183 X Pr (fun G' a0' x3' => (a0' = a0 ∧ ∃ n T', G' = mk G a0 ℓ T' ∧ x3' = nI (q + 1 + n) ∧ q + 1 + n ≤ zn S 6 ∧ (n = 0 ∨ zn S 5 = 1) ∧ (∀ j, tA T' j = tA t j) ∧ smL t T' ∧ tS T' 362 = tS t 362 ∧ MG T' (gat (zrq S) q n).1 q (zrq S q 1) (zrq S q 4) (gat (zrq S) q n).2.1 (gat (zrq S) q n).2.2) ∧ zn S 6 - x3'.toNatClampNeg < zn S 6 - (nI (q + 1 + n)).toNatClampNeg) (mk G a0 ℓ T') a0 (nI (q + 1 + n)) ((280 : Int32) + 12 * nI (q + 1 + n)) (nI mm) := by
        intro mm hmm hmi
        have l269 : ∀ (lim : Nat), lim = (if zrq S q 4 = 1 then 8 else 16) → mm = 1 → wX10_gathers_269 X Pr (fun G' a0' x3' => (a0' = a0 ∧ ∃ n T', G' = mk G a0 ℓ T' ∧ x3' = nI (q + 1 + n) ∧ q + 1 + n ≤ zn S 6 ∧ (n = 0 ∨ zn S 5 = 1) ∧ (∀ j, tA T' j = tA t j) ∧ smL t T' ∧ tS T' 362 = tS t 362 ∧ MG T' (gat (zrq S) q n).1 q (zrq S q 1) (zrq S q 4) (gat (zrq S) q n).2.1 (gat (zrq S) q n).2.2) ∧ zn S 6 - x3'.toNatClampNeg < zn S 6 - (nI (q + 1 + n)).toNatClampNeg) (mk G a0 ℓ T') a0 (nI (q + 1 + n)) (nI (min (gat (zrq S) q n).2.1 (zrq S (q + 1 + n) 2))) (nI (max (gat (zrq S) q n).2.2 (zrq S (q + 1 + n) 2 + zrq S (q + 1 + n) 3))) (nI (max (gat (zrq S) q n).2.2 (zrq S (q + 1 + n) 2 + zrq S (q + 1 + n) 3) - min (gat (zrq S) q n).2.1 (zrq S (q + 1 + n) 2))) (nI lim) := by
          intro lim hlim hm1
          have hmi' := hmi.mp hm1
          have hl16 : lim ≤ 16 := by rw [hlim]; split <;> omega
          unfold wX10_gathers_269
          rw [n_lt (by omega) (by omega)]
          refine ⟨fun zz => skip (fun e => ?_), fun zz => ⟨m_T h, sm_isHeldBack h hv' hw hq z' hM40 hg (fun hh => ⟨fun _ => skip (fun e => e.2 hh), fun z => absurd z (by decide)⟩) (fun hh => ⟨fun z => absurd rfl z, fun _ => ⟨m_T h, m_T h, ?_⟩⟩)⟩⟩
          · have := e.1.2.2.2.2.2
            rw [← hlim] at this; omega
          · have hf : fitB (zrq S) q (gat (zrq S) q n).2.1 (gat (zrq S) q n).2.2 (q + 1 + n) := ⟨hmi'.1, hmi'.2.1, hmi'.2.2.1, hmi'.2.2.2.1, hmi'.2.2.2.2, by rw [← hlim]; omega⟩
            rw [ml_gJ, g1, l_shl (show q + 1 + n < 40 by omega), l_or hMl (by omega)]
            intro G2 eG2
            rw [ml_sJ] at eG2
            subst eG2
            refine ⟨m_T h, ?_⟩
            intro G3 eG3
            rw [ml_sI] at eG3
            subst eG3
            refine ⟨m_T h, ?_⟩
            intro G4 eG4
            rw [ml_sI] at eG4
            subst eG4
            refine ⟨⟨rfl, n + 1, _, rfl, nI_1 _, by omega, Or.inr j5, fun j => hT' j, hsm'.tr (smL.uJ.tr ((smL.uS (by decide)).tr (smL.uS (by decide)))), h362', ?_⟩, dec⟩
            rw [gat_s, gstep_y hf hh]
            exact ⟨rfl, g2, g3, g4, rfl, rfl⟩
        have l243 : ∀ (sx : Nat), sx = max (gat (zrq S) q n).2.2 (zrq S (q + 1 + n) 2 + zrq S (q + 1 + n) 3) → wX10_gathers_243 X Pr (fun G' a0' x3' => (a0' = a0 ∧ ∃ n T', G' = mk G a0 ℓ T' ∧ x3' = nI (q + 1 + n) ∧ q + 1 + n ≤ zn S 6 ∧ (n = 0 ∨ zn S 5 = 1) ∧ (∀ j, tA T' j = tA t j) ∧ smL t T' ∧ tS T' 362 = tS t 362 ∧ MG T' (gat (zrq S) q n).1 q (zrq S q 1) (zrq S q 4) (gat (zrq S) q n).2.1 (gat (zrq S) q n).2.2) ∧ zn S 6 - x3'.toNatClampNeg < zn S 6 - (nI (q + 1 + n)).toNatClampNeg) (mk G a0 ℓ T') a0 (nI (q + 1 + n)) (nI mm) (nI (min (gat (zrq S) q n).2.1 (zrq S (q + 1 + n) 2))) (nI sx) := by
          intro sx hsx
          subst hsx
          unfold wX10_gathers_243
          rw [n_sub (by omega), ml_gI, g4]
          refine ⟨fun zz => skip (fun e => ?_), fun zz => ⟨m_T h, fun z4 => ?_, fun z4 => ?_⟩⟩
          · have em : mm = 0 := n_inj (b := 0) (by omega) (by decide) zz
            have := hmi.mpr ⟨e.1.1, e.1.2.1, e.1.2.2.1, e.1.2.2.2.1, e.1.2.2.2.2.1⟩
            omega
          · have e4' : zrq S q 4 = 0 := n_inj (b := 0) (by omega) (by decide) z4
            refine l269 16 (by rw [if_neg (by omega)]) ?_
            rcases (show mm = 0 ∨ mm = 1 by omega) with e | e
            · exact absurd (by rw [e]; rfl) zz
            · exact e
          · have e4' : zrq S q 4 = 1 := by
              rcases (show zrq S q 4 = 0 ∨ zrq S q 4 = 1 by omega) with e | e
              · exact absurd (by rw [e]; rfl) z4
              · exact e
            refine l269 8 (by rw [if_pos e4']) ?_
            rcases (show mm = 0 ∨ mm = 1 by omega) with e | e
            · exact absurd (by rw [e]; rfl) zz
            · exact e
        have l217 : ∀ (sx : Nat), sx = min (gat (zrq S) q n).2.1 (zrq S (q + 1 + n) 2) → wX10_gathers_217 X Pr (fun G' a0' x3' => (a0' = a0 ∧ ∃ n T', G' = mk G a0 ℓ T' ∧ x3' = nI (q + 1 + n) ∧ q + 1 + n ≤ zn S 6 ∧ (n = 0 ∨ zn S 5 = 1) ∧ (∀ j, tA T' j = tA t j) ∧ smL t T' ∧ tS T' 362 = tS t 362 ∧ MG T' (gat (zrq S) q n).1 q (zrq S q 1) (zrq S q 4) (gat (zrq S) q n).2.1 (gat (zrq S) q n).2.2) ∧ zn S 6 - x3'.toNatClampNeg < zn S 6 - (nI (q + 1 + n)).toNatClampNeg) (mk G a0 ℓ T') a0 (nI (q + 1 + n)) (nI mm) (nI sx) := by
          intro sx hsx
          subst hsx
          refine ⟨m_T h, sm_end h hv' i40 ⟨m_T h, ?_⟩⟩
          rw [ml_gI, g6, n_le (by omega) (by omega)]
          refine ⟨fun zz => ⟨m_T h, l243 _ (by omega)⟩, fun zz => ⟨m_T h, sm_end h hv' i40 (l243 _ (by omega))⟩⟩
        unfold wX10_gathers_183
        rw [f2]
        refine ⟨m_T h, ℓ 0, m_R h, m_V1 h, m_in h (by omega), m_T h, ?_⟩
        rw [m_A h (by omega), rdi 2 (by decide) (by decide), ml_gI, g5, n_le (by omega) (by omega)]
        refine ⟨fun zz => ⟨m_T h, l217 _ (by omega)⟩, fun zz => ⟨m_T h, ℓ 0, m_R h, m_V1 h, m_in h (by omega), ?_⟩⟩
        rw [m_A h (by omega), rdi 2 (by decide) (by decide)]
        exact l217 _ (by omega)
      have l147 : ∀ (e : Nat), e = zrq S q 4 → zrq S (q + 1 + n) 5 = 0 → zrq S (q + 1 + n) 1 = zrq S q 1 → wX10_gathers_147 X Pr (fun G' a0' x3' => (a0' = a0 ∧ ∃ n T', G' = mk G a0 ℓ T' ∧ x3' = nI (q + 1 + n) ∧ q + 1 + n ≤ zn S 6 ∧ (n = 0 ∨ zn S 5 = 1) ∧ (∀ j, tA T' j = tA t j) ∧ smL t T' ∧ tS T' 362 = tS t 362 ∧ MG T' (gat (zrq S) q n).1 q (zrq S q 1) (zrq S q 4) (gat (zrq S) q n).2.1 (gat (zrq S) q n).2.2) ∧ zn S 6 - x3'.toNatClampNeg < zn S 6 - (nI (q + 1 + n)).toNatClampNeg) (mk G a0 ℓ T') a0 (nI (q + 1 + n)) ((280 : Int32) + 12 * nI (q + 1 + n)) (nI (zrq S (q + 1 + n) 4)) (nI e) := by
        intro e he p5 p1
        subst he
        unfold wX10_gathers_147
        rw [f2]
        refine ⟨fun zz => l183 0 (by decide) ⟨fun e => absurd e (by decide), fun e => absurd (by rw [e.2.2.1]) zz⟩, fun zz => ⟨m_T h, ℓ 0, m_R h, m_V1 h, m_in h (by omega), m_T h, ?_⟩⟩
        have p4 : zrq S (q + 1 + n) 4 = zrq S q 4 := n_inj (by omega) (by omega) zz
        rw [m_A h (by omega), rdi 2 (by decide) (by decide), ml_gI, g6, n_lt (by omega) (by omega)]
        refine ⟨fun z2 => l183 0 (by decide) ⟨fun e => absurd e (by decide), fun e => by have := e.2.2.2.1; omega⟩, fun z2 => ⟨m_T h, sm_end h hv' i40 ⟨m_T h, ?_⟩⟩⟩
        rw [ml_gI, g5, n_lt (by omega) (by omega)]
        refine ⟨fun z3 => l183 0 (by decide) ⟨fun e => absurd e (by decide), fun e => by have := e.2.2.2.2; omega⟩, fun z3 => l183 1 (by decide) ⟨fun _ => ⟨p5, p1, p4, by omega, by omega⟩, fun _ => rfl⟩⟩
      refine sm_isWaiting h hv' i40 (by omega) (fun p5 => ⟨fun z => absurd z (by decide), fun _ => ⟨m_T h, ℓ 0, m_R h, m_V1 h, ?_⟩⟩) (fun p5 => ⟨fun _ => l183 0 (by decide) ⟨fun e => absurd e (by decide), fun e => absurd e.1 p5⟩, fun z => absurd rfl z⟩)
      rw [f1]
      refine ⟨m_in h (by omega), m_T h, ?_⟩
      rw [m_A h (by omega), rdi 1 (by decide) (by decide), ml_gI, g3]
      refine ⟨fun z2 => l183 0 (by decide) ⟨fun e => absurd e (by decide), fun e => absurd (by rw [e.2.1]) z2⟩, fun z2 => ⟨m_T h, ℓ 0, m_R h, m_V1 h, ?_⟩⟩
      have p1 : zrq S (q + 1 + n) 1 = zrq S q 1 := n_inj (by omega) (by omega) z2
      rw [f4]
      refine ⟨m_in h (by omega), m_T h, ?_⟩
      rw [m_A h (by omega), rdi 4 (by decide) (by decide), ml_gI, g4]
      refine ⟨fun z3 => l147 0 (n_inj (b := 0) (by omega) (by decide) z3).symm p5 p1, fun z3 => l147 1 ?_ p5 p1⟩
      rcases (show zrq S q 4 = 0 ∨ zrq S q 4 = 1 by omega) with e | e
      · exact absurd (by rw [e]; rfl) z3
      · exact e.symm
  refine s_requestAt.mpr ⟨m_T h, ?_⟩
  intro G1 eG1
  rw [ml_sI] at eG1
  subst eG1
  refine ⟨m_T h, ?_⟩
  rw [l_shl q40]
  intro G2 eG2
  rw [ml_sJ] at eG2
  subst eG2
  rw [e1, e2, e4]
  refine ⟨m_T h, ℓ 0, m_R h, m_V1 h, m_in h (by omega), m_T h, ?_⟩
  rw [m_A h (by omega), show tA (uJ (uS t 356 (nI q)) (lN (2 ^ q))) 0 (280 + 12 * q + 1) = nI (zrq S q 1) from rd 1 (by decide) (by decide)]
  intro G3 eG3
  rw [ml_sI] at eG3
  subst eG3
  refine ⟨m_T h, ℓ 0, m_R h, m_V1 h, m_in h (by omega), m_T h, ?_⟩
  rw [m_A h (by omega), show tA (uS (uJ (uS t 356 (nI q)) (lN (2 ^ q))) 360 (nI (zrq S q 1))) 0 (280 + 12 * q + 2) = nI (zrq S q 2) from rd 2 (by decide) (by decide)]
  intro G4 eG4
  rw [ml_sI] at eG4
  subst eG4
  refine ⟨m_T h, sm_end (S := S) h hv q40 ⟨m_T h, ?_⟩⟩
  intro G5 eG5
  rw [ml_sI] at eG5
  subst eG5
  refine ⟨m_T h, ℓ 0, m_R h, m_V1 h, m_in h (by omega), ?_⟩
  rw [m_A h (by omega), show tA (uS (uS (uS (uJ (uS t 356 (nI q)) (lN (2 ^ q))) 360 (nI (zrq S q 1))) 357 (nI (zrq S q 2))) 358 (nI (zrq S q 2 + zrq S q 3))) 0 (280 + 12 * q + 4) = nI (zrq S q 4) from rd 4 (by decide) (by decide)]
  have sm5 : ∀ x, smL t (uS (uS (uS (uS (uJ (uS t 356 (nI q)) (lN (2 ^ q))) 360 (nI (zrq S q 1))) 357 (nI (zrq S q 2))) 358 (nI (zrq S q 2 + zrq S q 3))) 359 x) := fun x => (smL.uS (by decide)).tr (smL.uJ.tr ((smL.uS (by decide)).tr ((smL.uS (by decide)).tr ((smL.uS (by decide)).tr (smL.uS (by decide))))))
  refine ⟨fun z => ⟨m_T h, ?_⟩, fun z => ⟨m_T h, ?_⟩⟩
  · have e0 : zrq S q 4 = 0 := by
      rcases (show zrq S q 4 = 0 ∨ zrq S q 4 = 1 by omega) with e | e
      · exact e
      · exact absurd (by rw [e]; rfl) z
    intro G6 eG6
    rw [ml_sI] at eG6
    subst eG6
    exact loop _ (fun _ => rfl) (sm5 _) rfl ⟨rfl, rfl, rfl, by rw [e0]; rfl, rfl, rfl⟩
  · have e0 : zrq S q 4 = 1 := n_inj (b := 1) (by omega) (by decide) z
    intro G6 eG6
    rw [ml_sI] at eG6
    subst eG6
    exact loop _ (fun _ => rfl) (sm5 _) rfl ⟨rfl, rfl, rfl, by rw [e0]; rfl, rfl, rfl⟩
end MGATHER
