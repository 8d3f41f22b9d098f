/-! ===== the reference: copies, leastDrain ===== -/
theorem i_nat {x : Int32} {lo hi : Nat} (hl : lo < 2 ^ 31) (hh : hi < 2 ^ 31) (h1 : nI lo ≤ x) (h2 : x ≤ nI hi) : ∃ n, x = nI n ∧ lo ≤ n ∧ n ≤ hi := by
  obtain ⟨n, hn, rfl⟩ := wb_of32 x
  by_cases h : n < 2 ^ 31
  · exact ⟨n, rfl, (n_le hl h).mp h1, (n_le h hh).mp h2⟩
  · exfalso
    have e : (nI n).toInt = (n : Int) - 2 ^ 32 := by
      show (BitVec.ofNat 32 n).toInt = _
      rw [BitVec.toInt_eq_toNat_cond, BitVec.toNat_ofNat, Nat.mod_eq_of_lt hn, if_neg (by omega)]
      rfl
    have e2 : (nI lo).toInt = (lo : Int) := by
      show (BitVec.ofNat 32 lo).toInt = _
      rw [BitVec.toInt_eq_toNat_cond, BitVec.toNat_ofNat, Nat.mod_eq_of_lt (by omega), if_pos (by omega)]
    have h3 := Int32.le_iff_toInt_le.mp h1
    rw [e, e2] at h3
    omega
/-- what leastDrain leaves: the listener and thrown -/
def smZ (t t' : Tt) : Prop := tA t' 16 = tA t 16 ∧ tA t' 17 = tA t 17 ∧ ∀ f, f = 354 ∨ 365 ≤ f → tS t' f = tS t f
theorem smZ.rf {t : Tt} : smZ t t := ⟨rfl, rfl, fun _ _ => rfl⟩
theorem smZ.tr {t t' t'' : Tt} (h : smZ t t') (h' : smZ t' t'') : smZ t t'' := ⟨h'.1.trans h.1, h'.2.1.trans h.2.1, fun f hf => (h'.2.2 f hf).trans (h.2.2 f hf)⟩
theorem smL.z {t t' : Tt} (h : smL t t') : smZ t t' := ⟨h.2.1, h.2.2.1, h.2.2.2⟩
theorem MV.ag {v v' : Nat → Int32} {S : St} (h : MV v S) (hL : (zL S).length ≤ 165) (h6 : ∀ d, (zfl S d).length ≤ 6) (h37 : ∀ r ∈ zL S, r.2.2.length ≤ 37) (e : ∀ j, j < 8900 → v' j = v j) : MV v' S := by
  obtain ⟨a1, a2, a3, a4, a5, a6, a7⟩ := h
  refine ⟨fun j hj h9 => by rw [e j (by omega)]; exact a1 j hj h9, by rw [e 9 (by decide)]; exact a2, fun d r h1 h2 h3 => ?_, fun d h1 h2 => ?_, fun i hi => ?_, fun p hp => ?_, fun k hk => ?_⟩
  · have : plc d r < 96 := plc_lt ⟨h1, h2⟩ h3
    rw [e _ (by omega), e _ (by omega)]; exact a3 d r h1 h2 h3
  · obtain ⟨b1, b2, b3, b4⟩ := a4 d h1 h2
    have := h6 d
    refine ⟨by rw [e _ (by omega)]; exact b1, by rw [e _ (by omega)]; exact b2, by rw [e _ (by omega)]; exact b3, fun k hk => ?_⟩
    rw [e _ (by omega), e _ (by omega)]; exact b4 k hk
  · obtain ⟨b1, b2, b3⟩ := a5 i hi
    exact ⟨fun k h1 h2 => by rw [e _ (by omega)]; exact b1 k h1 h2, by rw [e _ (by omega)]; exact b2, fun k hk => by rw [e _ (by omega)]; exact b3 k hk⟩
  · rw [e _ (by omega), e _ (by omega), e _ (by omega)]; exact a6 p hp
  · obtain ⟨b1, b2, b3, b4⟩ := a7 k hk
    have hr : ((zL S).getD k dr).2.2.length ≤ 37 := by
      have em : (zL S).getD k dr = (zL S)[k] := by simp [List.getD, hk]
      rw [em]
      exact h37 _ (List.getElem_mem hk)
    exact ⟨by rw [e _ (by omega)]; exact b1, by rw [e _ (by omega)]; exact b2, by rw [e _ (by omega)]; exact b3, fun j hj => by rw [e _ (by omega)]; exact b4 j hj⟩
section MLEAST
variable {X : Xt} {G : Gt} {m : Nat} {ℓ : Nat → Nat} {t : Tt} {S : St}
theorem m_R1 (h : ML G m ℓ) : gR (mk G m ℓ t) 353 m = some (ℓ 1) := h.2.1.2.1
theorem m_A1 (h : ML G m ℓ) : gT (mk G m ℓ t) (ℓ 1) = (2, 8900) := h.2.2.1.2.1
theorem sm_c01 {Pr : Gt → Prop} (h : ML G m ℓ) (k : ∀ t', (∀ j, j < 8900 → tA t' 1 j = tA t 0 j) → (∀ i, i ≠ 1 → tA t' i = tA t i) → (∀ f, tS t' f = tS t f) → tJ t' = tJ t → Pr (mk G m ℓ t')) : wX10_copies X (mk G m ℓ t) (ℓ 0) (ℓ 1) Pr := by
  refine ⟨fun K a0 a1 x2 => a0 = ℓ 0 ∧ a1 = ℓ 1 ∧ ∃ k t', K = mk G m ℓ t' ∧ x2 = nI k ∧ k ≤ 8900 ∧ (∀ j, j < k → tA t' 1 j = tA t 0 j) ∧ (∀ i, i ≠ 1 → tA t' i = tA t i) ∧ (∀ f, tS t' f = tS t f) ∧ tJ t' = tJ t, fun _ _ _ x2 => 8900 - x2.toNatClampNeg, ⟨rfl, rfl, 0, t, rfl, rfl, by omega, fun j hj => absurd hj (by omega), fun _ _ => rfl, fun _ => rfl, rfl⟩, ?_⟩
  rintro K a0 a1 x2 ⟨rfl, rfl, q, t', rfl, rfl, hq, e1, e2, e3, e4⟩
  refine ⟨fun z => k t' (fun j hj => e1 j (by have := (n_le (a := 8900) (by decide) (by omega)).mp z; omega)) e2 e3 e4, fun z => ?_⟩
  have hq' : q < 8900 := Nat.lt_of_not_le (fun e => z ((n_le (a := 8900) (by decide) (by omega)).mpr e))
  refine ⟨m_V1 h, m_in h hq', by rw [m_A1 h], by rw [m_A1 h]; exact n_in hq' (by decide), ?_⟩
  rw [n_cl (by omega), ml_gA0 h, ml_gA1 h]
  intro G1 e
  rw [ml_sA1 h] at e
  subst e
  refine ⟨⟨rfl, rfl, q + 1, _, rfl, nI_1 q, by omega, fun j hj => ?_, fun i hi => by rw [tA_uA, if_neg hi]; exact e2 i hi, fun f => by rw [tS_uA]; exact e3 f, e4⟩, dec_up (L := 8900) hq' (by decide)⟩
  rw [tA_uA, if_pos rfl]
  by_cases ej : j = q
  · subst ej; rw [pk_us, e2 0 (by decide)]
  · rw [pk_un ej]; exact e1 j (by omega)
theorem sm_c10 {Pr : Gt → Prop} (h : ML G m ℓ) (k : ∀ t', (∀ j, j < 8900 → tA t' 0 j = tA t 1 j) → (∀ i, i ≠ 0 → tA t' i = tA t i) → (∀ f, tS t' f = tS t f) → tJ t' = tJ t → Pr (mk G m ℓ t')) : wX10_copies X (mk G m ℓ t) (ℓ 1) (ℓ 0) Pr := by
  refine ⟨fun K a0 a1 x2 => a0 = ℓ 1 ∧ a1 = ℓ 0 ∧ ∃ k t', K = mk G m ℓ t' ∧ x2 = nI k ∧ k ≤ 8900 ∧ (∀ j, j < k → tA t' 0 j = tA t 1 j) ∧ (∀ i, i ≠ 0 → tA t' i = tA t i) ∧ (∀ f, tS t' f = tS t f) ∧ tJ t' = tJ t, fun _ _ _ x2 => 8900 - x2.toNatClampNeg, ⟨rfl, rfl, 0, t, rfl, rfl, by omega, fun j hj => absurd hj (by omega), fun _ _ => rfl, fun _ => rfl, rfl⟩, ?_⟩
  rintro K a0 a1 x2 ⟨rfl, rfl, q, t', rfl, rfl, hq, e1, e2, e3, e4⟩
  refine ⟨fun z => k t' (fun j hj => e1 j (by have := (n_le (a := 8900) (by decide) (by omega)).mp z; omega)) e2 e3 e4, fun z => ?_⟩
  have hq' : q < 8900 := Nat.lt_of_not_le (fun e => z ((n_le (a := 8900) (by decide) (by omega)).mpr e))
  refine ⟨by rw [m_A1 h], by rw [m_A1 h]; exact n_in hq' (by decide), m_V1 h, m_in h hq', ?_⟩
  rw [n_cl (by omega), ml_gA0 h, ml_gA1 h]
  intro G1 e
  rw [ml_sA0 h] at e
  subst e
  refine ⟨⟨rfl, rfl, q + 1, _, rfl, nI_1 q, by omega, fun j hj => ?_, fun i hi => by rw [tA_uA, if_neg hi]; exact e2 i hi, fun f => by rw [tS_uA]; exact e3 f, e4⟩, dec_up (L := 8900) hq' (by decide)⟩
  rw [tA_uA, if_pos rfl]
  by_cases ej : j = q
  · subst ej; rw [pk_us, e2 1 (by decide)]
  · rw [pk_un ej]; exact e1 j (by omega)
/-- with the drain d no false reply is taken -/
def ldS (S : St) (d : Nat) : Prop := zn (allS (u1 S 4 d)) 12 = zn S 12
/-- r is the least drain up to x -/
def isLD (S : St) (x : Nat) (r : Int32) : Prop := (∃ d, d ≤ x ∧ r = nI d ∧ ldS S d ∧ ∀ d', d' < d → ¬ ldS S d') ∨ (r = -1 ∧ ∀ d, d ≤ x → ¬ ldS S d)
theorem isLD_u {x : Nat} {r r' : Int32} (h : isLD S x r) (h' : isLD S x r') : r = r' := by
  rcases h with ⟨d, a1, a2, a3, a4⟩ | ⟨a1, a2⟩ <;> rcases h' with ⟨d', b1, b2, b3, b4⟩ | ⟨b1, b2⟩
  · rw [a2, b2]
    congr 1
    rcases Nat.lt_trichotomy d d' with e | e | e
    · exact absurd a3 (b4 d e)
    · exact e
    · exact absurd b3 (a4 d' e)
  · exact absurd a3 (b2 d a1)
  · exact absurd b3 (a2 d' b1)
  · rw [a1, b1]
theorem u4_wf (hw : WF S) {d : Nat} (hd : d ≤ 1000) : WF (u1 S 4 d) := by
  obtain ⟨⟨s1, s2, s2', s3, s4, s5, s6, s8⟩, w2, w3, w4, w5⟩ := hw
  exact ⟨⟨s1, s2, s2', s3, hd, s5, s6, s8⟩, w2, w3, w4, w5⟩
theorem sm_leastDrain {x1 : Int32} {Pr : Int32 → Gt → Prop} (h : ML G m ℓ) (hv : MV (tA t 0) S) (hw : WF S) (hb : bd S)
    (k1 : ∀ x t' r, x1 = nI x → x ≤ 40 → MV (tA t' 0) S → smZ (uS t 354 0) t' → isLD S x r → Pr r (mk G m ℓ t'))
    (k0 : ¬ (0 ≤ x1 ∧ x1 ≤ 40) → Pr 0 (mk G m ℓ (uS (uS t 354 0) 354 1))) : wX10_leastDrain X (mk G m ℓ t) m x1 Pr := by
  have h6 : ∀ d, (zfl S d).length ≤ 6 := fun d => (hw.2.1 d).2.2.2.2.1
  have h37 : ∀ r ∈ zL S, r.2.2.length ≤ 37 := fun r hr => (hw.2.2.2.2 r hr).2.2.2.1
  have hbt := bd_t hw hb
  refine ⟨m_T h, ?_⟩
  rw [ml_sI]
  rintro G1 rfl
  refine s_in.mpr ?_
  by_cases hx : 0 ≤ x1 ∧ x1 ≤ 40
  · obtain ⟨x, rfl, _, hx40⟩ := i_nat (lo := 0) (hi := 40) (by decide) (by decide) hx.1 hx.2
    rw [bI_t hx]
    refine ⟨fun _ => ⟨m_T h, ℓ 0, m_R h, m_T h, ℓ 1, m_R1 h, sm_c01 h (fun t1 e1 e2 e3 e4 => ?_)⟩, fun z => absurd z (by decide)⟩
    have hv1 : MV (tA t1 0) S := by rw [e2 0 (by decide)]; exact hv
    have hs1 : MV (tA t1 1) S := hv.ag (by omega) h6 h37 e1
    have z1 : smZ (uS t 354 0) t1 := ⟨e2 16 (by decide), e2 17 (by decide), fun f _ => e3 f⟩
    clear e1 e2 e3 e4
    refine ⟨fun K a0 y1 y2 y3 => a0 = m ∧ y1 = nI x ∧ ∃ q t', K = mk G m ℓ t' ∧ y3 = nI q ∧ q ≤ x + 1 ∧ MV (tA t' 0) S ∧ MV (tA t' 1) S ∧ smZ (uS t 354 0) t' ∧ ((y2 = -1 ∧ ∀ d, d < q → ¬ ldS S d) ∨ (∃ d, d ≤ x ∧ y2 = nI d ∧ ldS S d ∧ ∀ d', d' < d → ¬ ldS S d')), fun _ _ _ _ y3 => x + 1 - y3.toNatClampNeg, ⟨rfl, rfl, 0, t1, rfl, rfl, by omega, hv1, hs1, z1, Or.inl ⟨rfl, fun d hd => absurd hd (by omega)⟩⟩, ?_⟩
    rintro K a0 y1 y2 y3 ⟨rfl, rfl, q, t', rfl, rfl, hq, hv', hs', z', hd⟩
    have yes : (∃ d, d ≤ x ∧ y2 = nI d ∧ ldS S d ∧ ∀ d', d' < d → ¬ ldS S d') → Pr y2 (mk G a0 ℓ t') := fun e => k1 x t' y2 rfl hx40 hv' z' (Or.inl e)
    refine ⟨fun z => ?_, fun z => ⟨fun z2 => ?_, fun z2 => ⟨m_T h, ℓ 0, m_R h, m_V1 h, m_in h (j := 12) (by decide), m_T h, ℓ 0, m_R h, m_V1 h, m_in h (j := 4) (by decide), ?_⟩⟩⟩
    · rcases hd with ⟨e1, e2⟩ | e
      · have := (n_lt (by omega) (by omega)).mp z
        exact k1 x t' y2 rfl hx40 hv' z' (Or.inr ⟨e1, fun d hd => e2 d (by omega)⟩)
      · exact yes e
    · rcases hd with ⟨e1, e2⟩ | e
      · rw [e1] at z2; exact absurd z2 (by decide)
      · exact yes e
    · have hq' : q ≤ x := Nat.le_of_not_lt (fun e => z ((n_lt (by omega) (by omega)).mpr e))
      have hn : ∀ d, d < q → ¬ ldS S d := by
        rcases hd with ⟨e1, e2⟩ | ⟨d, e1, e2, e3⟩
        · exact e2
        · rw [e2] at z2; exact absurd (nI_pos' (by omega)) z2
      rw [show gA (mk G a0 ℓ t') (ℓ 0) (12 : Int32).toNatClampNeg = nI (zn S 12) from m_num h hv' (by decide) (by decide), show sA (mk G a0 ℓ t') (ℓ 0) (upd (gA (mk G a0 ℓ t') (ℓ 0)) (4 : Int32).toNatClampNeg (nI q)) = _ from m_st (j := 4) h (by decide)]
      rintro G2 rfl
      have hv2 := MV.w (hv'.num (j := 4) (x := q) (by decide) (by decide))
      have hw2 := u4_wf hw (d := q) (by omega)
      have hb2 : bd (u1 S 4 q) := hb
      have k2 : kVr t' (wA t' 4 (nI q)) := wA_k
      refine ⟨m_T h, sm_stepsAll h hv2 hw2 hb2 (fun t3 v3 sm3 => ⟨m_T h, ℓ 0, m_R h, m_V1 h, m_in h (j := 12) (by decide), ?_⟩)⟩
      obtain ⟨aw, ab, _⟩ := all_ok hw2 hb2
      have b12 : zn (allS (u1 S 4 q)) 12 ≤ 40 := by
        have := ab.2.2.1
        have := aw.1.2.2.2.2.2.2.1
        omega
      have c12 : zn S 12 ≤ 40 := by
        have := hb.2.2.1
        have := hw.1.2.2.2.2.2.2.1
        omega
      rw [show gA (mk G a0 ℓ t3) (ℓ 0) (12 : Int32).toNatClampNeg = nI (zn (allS (u1 S 4 q)) 12) from m_num h v3 (by decide) (by decide), nI_eq (by omega) (by omega)]
      have hs3 : MV (tA t3 1) S := by
        rw [sm3.1, k2.1 1 (by decide)]; exact hs'
      have z3 : smZ (uS t 354 0) t3 := (z'.tr k2.sm.z).tr sm3.z
      have nx : ∀ y, ((y = -1 ∧ ∀ d, d < q + 1 → ¬ ldS S d) ∨ (∃ d, d ≤ x ∧ y = nI d ∧ ldS S d ∧ ∀ d', d' < d → ¬ ldS S d')) → wX10_copies X (mk G a0 ℓ t3) (ℓ 1) (ℓ 0) (fun G128 => (a0 = a0 ∧ nI x = nI x ∧ ∃ q' t', G128 = mk G a0 ℓ t' ∧ nI q + 1 = nI q' ∧ q' ≤ x + 1 ∧ MV (tA t' 0) S ∧ MV (tA t' 1) S ∧ smZ (uS t 354 0) t' ∧ ((y = -1 ∧ ∀ d, d < q' → ¬ ldS S d) ∨ (∃ d, d ≤ x ∧ y = nI d ∧ ldS S d ∧ ∀ d', d' < d → ¬ ldS S d'))) ∧ x + 1 - (nI q + 1).toNatClampNeg < x + 1 - (nI q).toNatClampNeg) := by
        intro y hy
        refine sm_c10 h (fun t4 e1 e2 e3 e4 => ⟨⟨rfl, rfl, q + 1, t4, rfl, nI_1 q, by omega, hs3.ag (by omega) h6 h37 e1, by rw [e2 1 (by decide)]; exact hs3, z3.tr ⟨e2 16 (by decide), e2 17 (by decide), fun f _ => e3 f⟩, hy⟩, dec_up (L := x + 1) (by omega) (by omega)⟩)
      refine ⟨fun z4 => ⟨m_T h, ℓ 1, m_R1 h, m_T h, ℓ 0, m_R h, nx _ (Or.inl ⟨rfl, fun d hd => ?_⟩)⟩, fun z4 => ⟨m_T h, ℓ 1, m_R1 h, m_T h, ℓ 0, m_R h, nx _ (Or.inr ⟨q, hq', rfl, z4, hn⟩)⟩⟩
      by_cases e : d = q
      · subst e; exact z4
      · exact hn d (by omega)
  · rw [bI_f hx]
    refine ⟨fun z => absurd rfl z, fun _ => ⟨m_T h, ?_⟩⟩
    exact (s_fails h).mpr (k0 hx)
end MLEAST
