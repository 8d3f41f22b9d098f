/-! ===== the reference: read, write ===== -/
def rqN (R : Nat → Nat) (c d s w iw v : Nat) : Nat → Nat := va_up (va_up (va_up (va_up (va_up (va_up R 0 c) 1 d) 2 s) 3 w) 4 iw) 9 v
/-- one more request -/
def addS (S : St) (c d s w iw v : Nat) : St := mkS (va_up (zn S) 6 (zn S 6 + 1)) (zrg S) (zro S) (ztp S) (zdl S) (zfl S) (va_up (zrq S) (zn S 6) (rqN (zrq S (zn S 6)) c d s w iw v)) (va_up (zW S) (zn S 6) (-1)) (zV S) (zcf S) (zcv S) (zct S) (zL S)
theorem va_st {R : Nat → Nat → Nat} {n j x : Nat} {f : Nat → Nat} : va_up (va_up R n f) n (va_up (va_up R n f n) j x) = va_up R n (va_up f j x) := by rw [va_tw, va_up_self]
theorem MV.rqc {v : Nat → Int32} {S : St} {n j x : Nat} {f : Nat → Nat} (h : MV v (urq S (va_up (zrq S) n f))) (h6 : ∀ d, (zfl S d).length ≤ 6) (hn : n < 40) (hj : j < 10) (h7 : j ≠ 7) : MV (upd v (280 + 12 * n + j) (nI x)) (urq S (va_up (zrq S) n (va_up f j x))) := by
  have e := MV.rq h h6 (n := n) (f := j) (x := x) hn hj h7
  have e2 := va_st (R := zrq S) (n := n) (j := j) (x := x) (f := f)
  rw [← e2]
  exact e
section MMAKES
variable {X : Xt} {G : Gt} {m : Nat} {ℓ : Nat → Nat} {t : Tt} {S : St}
theorem sm_makes {c d s w iw v : Nat} {x5 : Int32} {Pr : Int32 → Gt → Prop} (h : ML G m ℓ) (hv : MV (tA t 0) S) (hw : WF S) (hn : zn S 6 < 40) (h5 : x5 = nI iw) (hiw : iw ≤ 1)
    (k : ∀ t', MV (tA t' 0) (addS S c d s w iw v) → kVr t t' → Pr (nI (zn S 6)) (mk G m ℓ t')) : wX10_makes X (mk G m ℓ t) m (nI c) (nI d) (nI s) (nI w) x5 (nI v) Pr := by
  have h6 : ∀ d, (zfl S d).length ≤ 6 := fun d => (hw.2.1 d).2.2.2.2.1
  refine ⟨m_T h, ℓ 0, m_R h, m_V1 h, m_in h (j := 6) (by decide), s_requestAt.mpr ?_⟩
  rw [show gA (mk G m ℓ t) (ℓ 0) (6 : Int32).toNatClampNeg = nI (zn S 6) from m_num h hv (by decide) (by decide), show (280 : Int32) + 12 * nI (zn S 6) = nI (280 + 12 * zn S 6) from ix2 280 12 _]
  have a1 : nI (280 + 12 * zn S 6) + 1 = nI (280 + 12 * zn S 6 + 1) := n_add (b := 1)
  have a2 : nI (280 + 12 * zn S 6) + 2 = nI (280 + 12 * zn S 6 + 2) := n_add (b := 2)
  have a3 : nI (280 + 12 * zn S 6) + 3 = nI (280 + 12 * zn S 6 + 3) := n_add (b := 3)
  have a4 : nI (280 + 12 * zn S 6) + 4 = nI (280 + 12 * zn S 6 + 4) := n_add (b := 4)
  have a7 : nI (280 + 12 * zn S 6) + 7 = nI (280 + 12 * zn S 6 + 7) := n_add (b := 7)
  have a9 : nI (280 + 12 * zn S 6) + 9 = nI (280 + 12 * zn S 6 + 9) := n_add (b := 9)
  rw [a1, a2, a3, a4]
  refine ⟨m_T h, ℓ 0, m_R h, m_V1 h, m_in h (by omega), ?_⟩
  rw [m_st h (by omega)]
  rintro G1 rfl
  have v1 := MV.w (hv.rq h6 (n := zn S 6) (f := 0) (x := c) hn (by decide) (by decide))
  have q1 : kVr t (wA t (280 + 12 * zn S 6) (nI c)) := wA_k
  revert v1 q1
  rw [show 280 + 12 * zn S 6 + 0 = 280 + 12 * zn S 6 from rfl]
  generalize wA t (280 + 12 * zn S 6) (nI c) = t1
  intro v1 q1
  refine ⟨m_T h, ℓ 0, m_R h, m_V1 h, m_in h (by omega), ?_⟩
  rw [m_st h (by omega)]
  rintro G2 rfl
  have v2 := MV.w (MV.rqc (S := S) (j := 1) (x := d) v1 h6 hn (by decide) (by decide))
  have q2 := q1.tr (wA_k (t := t1) (j := 280 + 12 * zn S 6 + 1) (x := nI d))
  revert v2 q2
  generalize wA t1 (280 + 12 * zn S 6 + 1) (nI d) = t2
  intro v2 q2
  refine ⟨m_T h, ℓ 0, m_R h, m_V1 h, m_in h (by omega), ?_⟩
  rw [m_st h (by omega)]
  rintro G3 rfl
  have v3 := MV.w (MV.rqc (S := S) (j := 2) (x := s) v2 h6 hn (by decide) (by decide))
  have q3 := q2.tr (wA_k (t := t2) (j := 280 + 12 * zn S 6 + 2) (x := nI s))
  revert v3 q3
  generalize wA t2 (280 + 12 * zn S 6 + 2) (nI s) = t3
  intro v3 q3
  refine ⟨m_T h, ℓ 0, m_R h, m_V1 h, m_in h (by omega), ?_⟩
  rw [m_st h (by omega)]
  rintro G4 rfl
  have v4 := MV.w (MV.rqc (S := S) (j := 3) (x := w) v3 h6 hn (by decide) (by decide))
  have q4 := q3.tr (wA_k (t := t3) (j := 280 + 12 * zn S 6 + 3) (x := nI w))
  revert v4 q4
  generalize wA t3 (280 + 12 * zn S 6 + 3) (nI w) = t4
  intro v4 q4
  refine ⟨m_T h, ℓ 0, m_R h, ?_⟩
  have fin : ∀ y, y = nI iw → wX10_makes_69 X Pr (mk G m ℓ t4) m (nI v) (nI (280 + 12 * zn S 6)) (ℓ 0) (nI (280 + 12 * zn S 6 + 4)) y := by
    rintro y rfl
    unfold wX10_makes_69
    rw [a7, a9, m_st h (by omega)]
    refine ⟨m_V1 h, m_in h (by omega), ?_⟩
    rintro G5 rfl
    have v5 := MV.w (MV.rqc (S := S) (j := 4) (x := iw) v4 h6 hn (by decide) (by decide))
    have q5 := q4.tr (wA_k (t := t4) (j := 280 + 12 * zn S 6 + 4) (x := nI iw))
    revert v5 q5
    generalize wA t4 (280 + 12 * zn S 6 + 4) (nI iw) = t5
    intro v5 q5
    refine ⟨m_T h, ℓ 0, m_R h, m_V1 h, m_in h (by omega), ?_⟩
    rw [m_st h (by omega)]
    rintro G6 rfl
    have v6 := MV.w (v5.Wh h6 (n := zn S 6) (x := -1) hn)
    have q6 := q5.tr (wA_k (t := t5) (j := 280 + 12 * zn S 6 + 7) (x := -1))
    revert v6 q6
    generalize wA t5 (280 + 12 * zn S 6 + 7) (-1) = t6
    intro v6 q6
    refine ⟨m_T h, ℓ 0, m_R h, m_V1 h, m_in h (by omega), ?_⟩
    rw [m_st h (by omega)]
    rintro G7 rfl
    have v7 := MV.w (MV.rqc (S := uWh S (va_up (zW S) (zn S 6) (-1))) (j := 9) (x := v) v6 h6 hn (by decide) (by decide))
    have q7 := q6.tr (wA_k (t := t6) (j := 280 + 12 * zn S 6 + 9) (x := nI v))
    revert v7 q7
    generalize wA t6 (280 + 12 * zn S 6 + 9) (nI v) = t7
    intro v7 q7
    refine ⟨m_T h, ℓ 0, m_R h, m_V1 h, m_in h (j := 6) (by decide), m_V1 h, m_in h (j := 6) (by decide), ?_⟩
    rw [show gA (mk G m ℓ t7) (ℓ 0) (6 : Int32).toNatClampNeg = nI (zn S 6) from m_num h v7 (by decide) (by decide), nI_1, show sA (mk G m ℓ t7) (ℓ 0) (upd (gA (mk G m ℓ t7) (ℓ 0)) (6 : Int32).toNatClampNeg (nI (zn S 6 + 1))) = _ from m_st (j := 6) h (by decide)]
    rintro G8 rfl
    have v8 := MV.w (v7.num (j := 6) (x := zn S 6 + 1) (by decide) (by decide))
    refine ⟨m_T h, ℓ 0, m_R h, m_V1 h, m_in h (j := 6) (by decide), ?_⟩
    have e6 : gA (mk G m ℓ (wA t7 6 (nI (zn S 6 + 1)))) (ℓ 0) (6 : Int32).toNatClampNeg = nI (zn S 6 + 1) := by
      rw [ml_gA0 h, wA_0]; exact pk_us
    rw [e6, show nI (zn S 6 + 1) - 1 = nI (zn S 6 + 1 - 1) from n_sub (b := 1) (by omega), show zn S 6 + 1 - 1 = zn S 6 by omega]
    refine k _ ?_ (q7.tr wA_k)
    exact v8
  rw [h5]
  refine ⟨fun z => fin _ (by rw [show iw = 0 from n_inj (b := 0) (by omega) (by decide) z]; rfl), fun z => fin _ ?_⟩
  rcases (show iw = 0 ∨ iw = 1 by omega) with e | e
  · exact absurd (by rw [e]; rfl) z
  · rw [e]; rfl
theorem sm_asks {x1 x2 : Int32} {fl : Nat} {Pr : Int32 → Gt → Prop} (h : ML G m ℓ) (hv : MV (tA t 0) S) (h40 : zn S 6 ≤ 40) (hf : fl ≤ 1)
    (k1 : ¬ ((0 ≤ x1 ∧ x1 ≤ 3) ∧ 1 ≤ x2 ∧ x2 ≤ 3) → Pr 1 (mk G m ℓ t))
    (k2 : ∀ c d, x1 = nI c → c ≤ 3 → x2 = nI d → 1 ≤ d → d ≤ 3 → fl = 0 → Pr 2 (mk G m ℓ t))
    (k3 : ∀ c d, x1 = nI c → c ≤ 3 → x2 = nI d → 1 ≤ d → d ≤ 3 → fl = 1 → zn S 6 = 40 → Pr 3 (mk G m ℓ t))
    (k4 : ∀ c d, x1 = nI c → c ≤ 3 → x2 = nI d → 1 ≤ d → d ≤ 3 → fl = 1 → zn S 6 < 40 → Pr 0 (mk G m ℓ t)) : wX10_asks X (mk G m ℓ t) m x1 x2 (nI fl) Pr := by
  refine s_in.mpr ?_
  by_cases hx : 0 ≤ x1 ∧ x1 ≤ 3
  · obtain ⟨c, rfl, _, c3⟩ := i_nat (lo := 0) (hi := 3) (by decide) (by decide) hx.1 hx.2
    rw [bI_t hx]
    refine ⟨fun z => absurd z (by decide), fun _ => s_in.mpr ?_⟩
    by_cases hx2 : 1 ≤ x2 ∧ x2 ≤ 3
    · obtain ⟨d, rfl, d1, d3⟩ := i_nat (lo := 1) (hi := 3) (by decide) (by decide) hx2.1 hx2.2
      rw [bI_t hx2]
      refine ⟨fun _ => ⟨fun z => ⟨m_T h, ℓ 0, m_R h, m_V1 h, m_in h (j := 6) (by decide), ?_⟩, fun z => k2 c d rfl c3 rfl d1 d3 (n_inj (b := 0) (by omega) (by decide) z)⟩, fun z => absurd z (by decide)⟩
      have f1 : fl = 1 := by
        rcases (show fl = 0 ∨ fl = 1 by omega) with e | e
        · exact absurd (by rw [e]; rfl) z
        · exact e
      rw [show gA (mk G m ℓ t) (ℓ 0) (6 : Int32).toNatClampNeg = nI (zn S 6) from m_num h hv (by decide) (by decide)]
      refine ⟨fun z2 => k4 c d rfl c3 rfl d1 d3 f1 ?_, fun z2 => k3 c d rfl c3 rfl d1 d3 f1 (n_inj (b := 40) (by omega) (by decide) z2)⟩
      rcases (show zn S 6 < 40 ∨ zn S 6 = 40 by omega) with e | e
      · exact e
      · exact absurd (by rw [e]; rfl) z2
    · rw [bI_f hx2]
      exact ⟨fun z => absurd rfl z, fun _ => k1 (fun e => hx2 e.2)⟩
  · rw [bI_f hx]
    exact ⟨fun _ => k1 (fun e => hx e.1), fun z => absurd rfl z⟩
end MMAKES
