/-! ===== fingerprint: the reference's ===== -/
theorem ix2' (i j : Nat) : (760 : Int32) + 16 * nI i + nI j = nI (760 + 16 * i + j) := by rw [show (760 : Int32) + 16 * nI i = nI (760 + 16 * i) from ix2 760 16 i, n_add]
section MPRINT
variable {X : Xt} {G : Gt} {m : Nat} {ℓ : Nat → Nat} {t : Tt} {S : St} {Pl : Int64 → Gt → Prop}
theorem sf_208 (h : ML G m ℓ) (hv : MV (tA t 0) S) (hw : WF S) (k : Pl (fp4 S 96) (mk G m ℓ t)) : ∃ (I : Gt → Nat → Int64 → Int32 → Prop) (μ : Gt → Nat → Int64 → Int32 → Nat), I (mk G m ℓ t) m (fp4 S 0) (0 : Int32) ∧ ∀ (G : Gt) (a0 : Nat) (y1 : Int64) (x3 : Int32), I G a0 y1 x3 → wX10_fingerprint_208 X Pl (fun G' a0' y1' x3' => I G' a0' y1' x3' ∧ μ G' a0' y1' x3' < μ G a0 y1 x3) G a0 y1 x3 := by
  refine ⟨fun K a0 y x => K = mk G m ℓ t ∧ a0 = m ∧ ∃ n, x = nI n ∧ n ≤ 96 ∧ y = fp4 S n, fun _ _ _ x => 96 - x.toNatClampNeg, ⟨rfl, rfl, 0, rfl, by omega, rfl⟩, ?_⟩
  rintro K a0 y x ⟨rfl, rfl, n, rfl, hn, rfl⟩
  refine ⟨fun q => ?_, fun q => ?_⟩
  · have e : n = 96 := by have := (n_le (a := 96) (by decide) (by omega)).mp q; omega
    rw [e]
    exact k
  have hn' : n < 96 := Nat.lt_of_not_le (fun e => q ((n_le (a := 96) (by decide) (by omega)).mpr e))
  unfold wX10_cachedAt
  rw [show (20 : Int32) + nI n = nI (20 + n) from n_add (a := 20), show nI n / 32 = nI (n / 32) from pk_div (d := 32) (by omega) (by decide) (by decide), show (1 : Int32) + nI (n / 32) = nI (1 + n / 32) from n_add (a := 1), show nI (n / 32) * 32 = nI (n / 32 * 32) from pk_mul (n / 32) 32, n_sub (by omega), show n - n / 32 * 32 = n % 32 by omega]
  have d1 : 1 ≤ 1 + n / 32 := by omega
  have hp : plc (1 + n / 32) (n % 32) = n := by unfold plc; omega
  obtain ⟨c1, c2, c3⟩ := hv.2.2.2.2.2.1 n hn'
  have hrg := (hv.2.2.1 (1 + n / 32) (n % 32) d1 (by omega) (by omega)).1
  rw [hp] at hrg
  have w1 := (hw.2.2.2.1 n).1
  refine ⟨m_T h, ℓ 0, m_R h, m_V1 h, m_in h (by omega), m_T h, s_cacheAt.mpr ?_⟩
  rw [m_A h (by omega), hrg, ec_c1 d1, ec_c d1, hp]
  refine ⟨m_T h, ℓ 0, m_R h, m_V1 h, m_in h (by omega), ?_⟩
  rw [m_A h (by omega), c1]
  have stp : ∀ v, v = cvl (zcf S) (zcv S) n → ((31 : Int64) * ((31 : Int64) * fp4 S n + (nI (zrg S (1 + n / 32) (n % 32))).toInt64)) + v.toInt64 = fp4 S (n + 1) := by
    rintro v rfl
    unfold fp4
    rw [fpG_s]
    rfl
  refine ⟨fun z => ⟨⟨rfl, rfl, n + 1, nI_1 n, by omega, stp _ ?_⟩, dec_up (L := 96) hn' (by decide)⟩, fun z => ⟨m_T h, ℓ 0, m_R h, m_V1 h, m_in h (by omega), ?_⟩⟩
  · unfold cvl; rw [if_neg (fun e => z (by rw [e]; rfl))]
  · have ef : zcf S n = 1 := n_inj (b := 1) (by omega) (by decide) z
    rw [m_A h (by omega), c2]
    refine ⟨⟨rfl, rfl, n + 1, nI_1 n, by omega, stp _ ?_⟩, dec_up (L := 96) hn' (by decide)⟩
    unfold cvl; rw [if_pos ef]
theorem sf_131 {i : Nat} {p : Int64} {k77 : Gt → Nat → Int64 → Int32 → Prop} (h : ML G m ℓ) (hv : MV (tA t 0) S) (hw : WF S) (hi : i < zn S 6) (k : k77 (mk G m ℓ t) m (if zrq S i 4 = 0 ∧ zrq S i 5 = 1 then fpN (fun k => nI (zV S i k)) (zrq S i 3) p else p) (nI i + 1)) : ∃ (I : Gt → Nat → Int64 → Int32 → Int32 → Int32 → Prop) (μ : Gt → Nat → Int64 → Int32 → Int32 → Int32 → Nat), I (mk G m ℓ t) m p (nI i) (nI (280 + 12 * i)) (0 : Int32) ∧ ∀ (G : Gt) (a0 : Nat) (y1 : Int64) (x3 : Int32) (x4 : Int32) (x5 : Int32), I G a0 y1 x3 x4 x5 → wX10_fingerprint_131 X Pl k77 (fun G' a0' y1' x3' x4' x5' => I G' a0' y1' x3' x4' x5' ∧ μ G' a0' y1' x3' x4' x5' < μ G a0 y1 x3 x4 x5) G a0 y1 x3 x4 x5 := by
  have s6 : zn S 6 ≤ 40 := hw.1.2.2.2.2.2.2.1
  obtain ⟨w0, w1, w2, w3, w4, w5, w6, w7, w8, w9, w10⟩ := hw.2.2.1.1 i hi
  obtain ⟨v1, v2, v3⟩ := hv.2.2.2.2.1 i (by omega)
  refine ⟨fun K a0 y x3 x4 x5 => K = mk G m ℓ t ∧ a0 = m ∧ x3 = nI i ∧ x4 = nI (280 + 12 * i) ∧ ∃ j, x5 = nI j ∧ j ≤ zrq S i 3 ∧ (j ≠ 0 → zrq S i 4 = 0 ∧ zrq S i 5 = 1) ∧ y = fpN (fun k => nI (zV S i k)) j p, fun _ _ _ _ _ x5 => zrq S i 3 - x5.toNatClampNeg, ⟨rfl, rfl, rfl, rfl, 0, rfl, by omega, fun z => absurd rfl z, rfl⟩, ?_⟩
  rintro K a0 y x3 x4 x5 ⟨rfl, rfl, rfl, rfl, j, rfl, hj, hj0, rfl⟩
  unfold wX10_fingerprint_131
  rw [show nI (280 + 12 * i) + 3 = nI (280 + 12 * i + 3) from n_add (b := 3), show nI (280 + 12 * i) + 4 = nI (280 + 12 * i + 4) from n_add (b := 4), show nI (280 + 12 * i) + 5 = nI (280 + 12 * i + 5) from n_add (b := 5), ix2' i j]
  refine ⟨m_T h, ℓ 0, m_R h, m_V1 h, m_in h (by omega), ?_⟩
  rw [m_A h (by omega), v1 3 (by decide) (by decide), n_le (by omega) (by omega)]
  refine ⟨fun q => ?_, fun q => ⟨m_T h, ℓ 0, m_R h, m_V1 h, m_in h (by omega), ?_⟩⟩
  · have e : j = zrq S i 3 := by omega
    rw [if_pos (hj0 (by omega))] at k
    rw [e]; exact k
  · rw [m_A h (by omega), v1 4 (by decide) (by decide)]
    have no : ¬ (zrq S i 4 = 0 ∧ zrq S i 5 = 1) → j = 0 := fun e => by
      rcases Nat.eq_zero_or_pos j with q | q
      · exact q
      · exact absurd (hj0 (by omega)) e
    refine ⟨fun z => ?_, fun z => ⟨m_T h, ℓ 0, m_R h, m_V1 h, m_in h (by omega), ?_⟩⟩
    · have e : ¬ (zrq S i 4 = 0 ∧ zrq S i 5 = 1) := fun e => z (by rw [e.1]; rfl)
      rw [if_neg e] at k
      rw [no e]; exact k
    · rw [m_A h (by omega), v1 5 (by decide) (by decide)]
      refine ⟨fun z2 => ?_, fun z2 => ⟨m_T h, ℓ 0, m_R h, m_V1 h, m_in h (by omega), ?_⟩⟩
      · have e : ¬ (zrq S i 4 = 0 ∧ zrq S i 5 = 1) := fun e => z2 (by rw [e.2]; rfl)
        rw [if_neg e] at k
        rw [no e]; exact k
      · have z4 : zrq S i 4 = 0 := (z0 (by omega)).mp z
        have z5 : zrq S i 5 = 1 := n_inj (b := 1) (by omega) (by decide) z2
        rw [m_A h (by omega), v3 j (by omega)]
        exact ⟨⟨rfl, rfl, rfl, rfl, j + 1, nI_1 j, by omega, fun _ => ⟨z4, z5⟩, rfl⟩, dec_up (by omega) (by omega)⟩
theorem sm_fingerprint0 (h : ML G m ℓ) (hv : MV (tA t 0) S) (hw : WF S) (k : Pl (fp4 S 96) (mk G m ℓ t)) : ∃ (I : Gt → Nat → Int64 → Int32 → Prop) (μ : Gt → Nat → Int64 → Int32 → Nat), I (mk G m ℓ t) m (fp1 S 0) (0 : Int32) ∧ ∀ (G : Gt) (a0 : Nat) (y1 : Int64) (x3 : Int32), I G a0 y1 x3 → wX10_fingerprint_19 X Pl (fun G' a0' y1' x3' => I G' a0' y1' x3' ∧ μ G' a0' y1' x3' < μ G a0 y1 x3) G a0 y1 x3 := by
  have s6 : zn S 6 ≤ 40 := hw.1.2.2.2.2.2.2.1
  -- counts
  refine ⟨fun K a0 y x => K = mk G m ℓ t ∧ a0 = m ∧ ∃ j, x = nI j ∧ j ≤ 6 ∧ y = fp1 S j, fun _ _ _ x => 6 - x.toNatClampNeg, ⟨rfl, rfl, 0, rfl, by omega, rfl⟩, ?_⟩
  rintro K a0 y x ⟨rfl, rfl, j, rfl, hj, rfl⟩
  refine ⟨fun q => ?_, fun q => ?_⟩
  rotate_left
  · have hj6 : j < 6 := Nat.lt_of_not_le (fun e => q ((n_le (a := 6) (by decide) (by omega)).mpr e))
    rw [show (10 : Int32) + nI j = nI (10 + j) from n_add (a := 10)]
    refine ⟨m_T h, ℓ 0, m_R h, m_V1 h, m_in h (by omega), ?_⟩
    rw [m_A h (by omega), hv.1 (10 + j) (by omega) (by omega)]
    exact ⟨⟨rfl, rfl, j + 1, nI_1 j, by omega, fp1_s.symm⟩, dec_up (L := 6) hj6 (by decide)⟩
  have e6 : j = 6 := by have := (n_le (a := 6) (by decide) (by omega)).mp q; omega
  rw [e6, ← fp2_0]
  -- states
  refine ⟨fun K a' y x => K = mk G a0 ℓ t ∧ a' = a0 ∧ ∃ j, x = nI j ∧ j ≤ 3 ∧ y = fp2 S j, fun _ _ _ x => 3 - x.toNatClampNeg, ⟨rfl, rfl, 0, rfl, by omega, rfl⟩, ?_⟩
  rintro K a2 y x ⟨rfl, rfl, j, rfl, hj, rfl⟩
  refine ⟨fun q => ?_, fun q => ⟨m_T h, ?_⟩⟩
  rotate_left
  · have hj3 : j < 3 := Nat.lt_of_not_le (fun e => q ((n_le (a := 3) (by decide) (by omega)).mpr e))
    refine sm_countIn (p := fun i => decide (zrq S i 5 = j)) h hv s6 (fun i hi => ?_) ⟨⟨rfl, rfl, j + 1, nI_1 j, by omega, fp2_s.symm⟩, dec_up (L := 3) hj3 (by decide)⟩
    have := (hw.2.2.1.1 i hi).2.2.2.2.2.2.2.2.1
    rw [decide_eq_true_iff, nI_eq (by omega) (by omega)]
    exact ⟨fun e => ⟨e, Or.inl (by decide)⟩, fun e => e.1⟩
  have e3 : j = 3 := by have := (n_le (a := 3) (by decide) (by omega)).mp q; omega
  rw [e3, ← fp3_0]
  -- requests
  refine ⟨fun K a' y x => K = mk G a2 ℓ t ∧ a' = a2 ∧ ∃ j, x = nI j ∧ j ≤ zn S 6 ∧ y = fp3 S j, fun _ _ _ x => zn S 6 - x.toNatClampNeg, ⟨rfl, rfl, 0, rfl, by omega, rfl⟩, ?_⟩
  rintro K a3 y x ⟨rfl, rfl, j, rfl, hj, rfl⟩
  refine ⟨m_T h, ℓ 0, m_R h, m_V1 h, m_in h (j := 6) (by decide), ?_⟩
  rw [show gA (mk G a3 ℓ t) (ℓ 0) (6 : Int32).toNatClampNeg = nI (zn S 6) from m_num h hv (by decide) (by decide), n_le (by omega) (by omega)]
  refine ⟨fun q => ?_, fun q => ?_⟩
  · have ej : j = zn S 6 := by omega
    rw [ej, ← fp4_0]
    exact sf_208 h hv hw k
  have hj' : j < zn S 6 := by omega
  show ∃ (I : Gt → Nat → Int64 → Int32 → Int32 → Int32 → Prop) (μ : Gt → Nat → Int64 → Int32 → Int32 → Int32 → Nat), I (mk G a3 ℓ t) a3 (fp3 S j) (nI j) ((280 : Int32) + 12 * nI j) (5 : Int32) ∧ _
  rw [show (280 : Int32) + 12 * nI j = nI (280 + 12 * j) from ix2 280 12 j]
  obtain ⟨v1, v2, v3⟩ := hv.2.2.2.2.1 j (by omega)
  refine ⟨fun K a' y x3 x4 x5 => K = mk G a3 ℓ t ∧ a' = a3 ∧ x3 = nI j ∧ x4 = nI (280 + 12 * j) ∧ ((x5 = 5 ∧ y = fp3 S j) ∨ (x5 = 6 ∧ y = mixP (fp3 S j) (nI (zrq S j 5))) ∨ (x5 = 7 ∧ y = mixP (mixP (fp3 S j) (nI (zrq S j 5))) (nI (zrq S j 6))) ∨ (x5 = 8 ∧ y = mixP (mixP (mixP (fp3 S j) (nI (zrq S j 5))) (nI (zrq S j 6))) (zW S j))), fun _ _ _ _ _ x5 => 8 - x5.toNatClampNeg, ⟨rfl, rfl, rfl, rfl, Or.inl ⟨rfl, rfl⟩⟩, ?_⟩
  rintro K a4 y x3 x4 x5 ⟨rfl, rfl, rfl, rfl, hc⟩
  have rd : ∀ f, f < 10 → (gT (mk G a4 ℓ t) a4 = (1, 11)) ∧ (gT (mk G a4 ℓ t) (ℓ 0)).1 = 2 ∧ vp_in (nI (280 + 12 * j) + nI f) (gT (mk G a4 ℓ t) (ℓ 0)).2 ∧ gA (mk G a4 ℓ t) (ℓ 0) (nI (280 + 12 * j) + nI f).toNatClampNeg = tA t 0 (280 + 12 * j + f) := fun f hf => by
    rw [n_add]
    exact ⟨m_T h, m_V1 h, m_in h (by omega), m_A h (by omega)⟩
  rcases hc with ⟨rfl, rfl⟩ | ⟨rfl, rfl⟩ | ⟨rfl, rfl⟩ | ⟨rfl, rfl⟩
  · refine ⟨fun z => absurd z (by decide), fun _ => ?_⟩
    obtain ⟨o1, o2, o3, o4⟩ := rd 5 (by decide)
    refine ⟨o1, ℓ 0, m_R h, o2, o3, ?_⟩
    rw [show gA (mk G a4 ℓ t) (ℓ 0) (nI (280 + 12 * j) + 5).toNatClampNeg = _ from o4, v1 5 (by decide) (by decide)]
    exact ⟨⟨rfl, rfl, rfl, rfl, Or.inr (Or.inl ⟨by decide, rfl⟩)⟩, show (8 : Nat) - ((5 : Int32) + 1).toNatClampNeg < 8 - (5 : Int32).toNatClampNeg by decide⟩
  · refine ⟨fun z => absurd z (by decide), fun _ => ?_⟩
    obtain ⟨o1, o2, o3, o4⟩ := rd 6 (by decide)
    refine ⟨o1, ℓ 0, m_R h, o2, o3, ?_⟩
    rw [show gA (mk G a4 ℓ t) (ℓ 0) (nI (280 + 12 * j) + 6).toNatClampNeg = _ from o4, v1 6 (by decide) (by decide)]
    exact ⟨⟨rfl, rfl, rfl, rfl, Or.inr (Or.inr (Or.inl ⟨by decide, rfl⟩))⟩, show (8 : Nat) - ((6 : Int32) + 1).toNatClampNeg < 8 - (6 : Int32).toNatClampNeg by decide⟩
  · refine ⟨fun z => absurd z (by decide), fun _ => ?_⟩
    obtain ⟨o1, o2, o3, o4⟩ := rd 7 (by decide)
    refine ⟨o1, ℓ 0, m_R h, o2, o3, ?_⟩
    rw [show gA (mk G a4 ℓ t) (ℓ 0) (nI (280 + 12 * j) + 7).toNatClampNeg = _ from o4, v2]
    exact ⟨⟨rfl, rfl, rfl, rfl, Or.inr (Or.inr (Or.inr ⟨by decide, rfl⟩))⟩, show (8 : Nat) - ((7 : Int32) + 1).toNatClampNeg < 8 - (7 : Int32).toNatClampNeg by decide⟩
  · refine ⟨fun _ => ?_, fun z => absurd (by decide) z⟩
    exact sf_131 h hv hw hj' ⟨⟨rfl, rfl, j + 1, nI_1 j, by omega, fp3_s.symm⟩, dec_up (by omega) (by omega)⟩
theorem sm_fingerprint (h : ML G m ℓ) (hv : MV (tA t 0) S) (hw : WF S) (k : Pl (fp4 S 96) (mk G m ℓ (uS t 354 0))) : wX10_fingerprint X (mk G m ℓ t) m Pl := by
  refine ⟨m_T h, ?_⟩
  rw [ml_sI]
  rintro G1 rfl
  refine ⟨m_T h, ℓ 0, m_R h, m_V1 h, m_in h (j := 0) (by decide), ?_⟩
  rw [show gA (mk G m ℓ (uS t 354 0)) (ℓ 0) (0 : Int32).toNatClampNeg = nI (zn S 0) from m_num (t := uS t 354 0) h hv (by decide) (by decide)]
  rw [show (2263 : Int64) + (nI (zn S 0)).toInt64 = fp1 S 0 by rw [fp1_0]; congr 1]
  exact sm_fingerprint0 (t := uS t 354 0) h hv hw k
end MPRINT
