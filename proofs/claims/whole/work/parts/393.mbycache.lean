/-! ===== the reference: byCache ===== -/
theorem va_lt {V : Nat → Nat → Nat} {q k : Nat} {x : Nat → Nat} : va_up (va_up V q (fun j => if j < k then x j else V q j)) q (va_up (va_up V q (fun j => if j < k then x j else V q j) q) k (x k)) = va_up V q (fun j => if j < k + 1 then x j else V q j) := by
  rw [va_tw, va_up_self]
  congr 1
  funext j
  unfold va_up
  by_cases e : j = k
  · subst e; rw [if_pos rfl, if_pos (by omega)]
  · rw [if_neg e]
    show (if j < k then x j else V q j) = _
    by_cases e2 : j < k
    · rw [if_pos e2, if_pos (by omega)]
    · rw [if_neg e2, if_neg (by omega)]
theorem va_lt0 {V : Nat → Nat → Nat} {q : Nat} {x : Nat → Nat} : va_up V q (fun j => if j < 0 then x j else V q j) = V := va_idx (by funext j; rw [if_neg (by omega)])
section MBYC
variable {X : Xt} {G : Gt} {m : Nat} {ℓ : Nat → Nat} {t : Tt} {S : St} {q : Nat}
theorem sm_byCache {Pr : Int32 → Gt → Prop} (h : ML G m ℓ) (hv : MV (tA t 0) S) (hw : WF S) (hq : q < zn S 6) (hc : isC S q) (k : ∀ t', MV (tA t' 0) (byC S q) → kVr t t' → Pr 1 (mk G m ℓ t')) : wX10_byCache X (mk G m ℓ t) m (nI q) Pr := by
  obtain ⟨q40, wq⟩ := wf_rq hw hq
  obtain ⟨w0, w1, w2, w3, w4, w5, w6, w7, w8, w9⟩ := wq
  have h6 : ∀ d, (zfl S d).length ≤ 6 := fun d => (hw.2.1 d).2.2.2.2.1
  have e0 : (280 : Int32) + 12 * nI q = nI (280 + 12 * q) := ix2 280 12 q
  have e1 : nI (280 + 12 * q) + 1 = nI (280 + 12 * q + 1) := n_add (b := 1)
  have e2 : nI (280 + 12 * q) + 2 = nI (280 + 12 * q + 2) := n_add (b := 2)
  have e3 : nI (280 + 12 * q) + 3 = nI (280 + 12 * q + 3) := n_add (b := 3)
  have e8 : nI (280 + 12 * q) + 8 = nI (280 + 12 * q + 8) := n_add (b := 8)
  have em : (760 : Int32) + 16 * nI q = nI (760 + 16 * q) := ix2 760 16 q
  refine s_requestAt.mpr ?_
  rw [e0]
  refine ⟨fun K a0 x1 x2 x3 => a0 = m ∧ x1 = nI q ∧ x2 = nI (280 + 12 * q) ∧ ∃ j t', x3 = nI j ∧ j ≤ zrq S q 3 ∧ K = mk G m ℓ t' ∧ kVr t t' ∧ MV (tA t' 0) (uVl S (va_up (zV S) q (fun i => if i < j then zcv S (plc (zrq S q 1) (zrq S q 2 + i)) else zV S q i))), fun _ _ _ _ x3 => zrq S q 3 - x3.toNatClampNeg, ⟨rfl, rfl, rfl, 0, t, rfl, by omega, rfl, kVr.rf, by rw [va_lt0]; exact hv⟩, ?_⟩
  rintro K a0 x1 x2 x3 ⟨rfl, rfl, rfl, j, t', rfl, hj, rfl, hk, hv'⟩
  have rd := (hv'.2.2.2.2.1 q q40).1
  unfold wX10_byCache_7
  rw [e1, e2, e3, e8]
  refine ⟨m_T h, ℓ 0, m_R h, m_V1 h, m_in h (by omega), ?_⟩
  rw [m_A h (by omega), show tA t' 0 (280 + 12 * q + 3) = nI (zrq S q 3) from rd 3 (by decide) (by decide), n_le (by omega) (by omega)]
  refine ⟨fun z => ⟨m_T h, ?_⟩, fun z => ?_⟩
  · have ej : j = zrq S q 3 := by omega
    subst ej
    refine sm_ends (st := 1) (cd := 0) h hv' h6 q40 (fun t2 v2 k2 => ?_)
    refine ⟨m_T h, ℓ 0, m_R h, m_V1 h, m_in h (by omega), ?_⟩
    rw [m_st h (by omega)]
    rintro G1 rfl
    have v3 := MV.w (v2.rq h6 (f := 8) (x := 1) q40 (by decide) (by decide))
    have k3 : kVr t (wA t2 (280 + 12 * q + 8) (nI 1)) := (hk.tr k2).tr wA_k
    revert v3 k3
    rw [show (1 : Int32) = nI 1 from rfl]
    generalize wA t2 (280 + 12 * q + 8) (nI 1) = t3
    intro v3 k3
    refine ⟨m_T h, ℓ 0, m_R h, m_V1 h, m_in h (j := 14) (by decide), m_V1 h, m_in h (j := 14) (by decide), ?_⟩
    rw [show gA (mk G a0 ℓ t3) (ℓ 0) (14 : Int32).toNatClampNeg = nI (zn S 14) from m_num h v3 (by decide) (by decide), n_add, show sA (mk G a0 ℓ t3) (ℓ 0) (upd (gA (mk G a0 ℓ t3) (ℓ 0)) (14 : Int32).toNatClampNeg (nI (zn S 14 + 1))) = _ from m_st (j := 14) h (by decide)]
    rintro G2 rfl
    have v4 := MV.w (v3.num (j := 14) (x := zn S 14 + 1) (by decide) (by decide))
    refine k _ ?_ (k3.tr wA_k)
    have eR : va_up (zrq S) q (fun k => if k = 5 then 1 else if k = 6 then 0 else if k = 8 then 1 else zrq S q k) = va_up (va_up (zrq S) q (fun j => if j = 5 then 1 else if j = 6 then 0 else zrq S q j)) q (va_up (va_up (zrq S) q (fun j => if j = 5 then 1 else if j = 6 then 0 else zrq S q j) q) 8 1) := by
      rw [va_tw, va_up_self]
      congr 1
      funext i
      unfold va_up
      by_cases a : i = 8
      · subst a; rfl
      · rw [if_neg a, if_neg a]
    unfold byC
    rw [eR]
    exact v4
  · refine ⟨m_T h, ℓ 0, m_R h, m_T h, ℓ 0, m_R h, m_T h, ℓ 0, m_R h, m_V1 h, m_in h (by omega), m_T h, ℓ 0, m_R h, m_V1 h, m_in h (by omega), s_cacheAt.mpr ?_⟩
    have fr := hc.2 j (by omega)
    have hp := plc_lt ⟨w1, w2⟩ fr.1
    rw [m_A h (by omega), m_A h (by omega), show tA t' 0 (280 + 12 * q + 1) = nI (zrq S q 1) from rd 1 (by decide) (by decide), show tA t' 0 (280 + 12 * q + 2) = nI (zrq S q 2) from rd 2 (by decide) (by decide), n_add, ec_c1 w1, em, n_add, m_A h (by omega), show tA t' 0 (1400 + 3 * plc (zrq S q 1) (zrq S q 2 + j) + 1) = nI (zcv S (plc (zrq S q 1) (zrq S q 2 + j))) from (hv'.2.2.2.2.2.1 _ hp).2.1, m_st h (by omega)]
    refine ⟨m_V1 h, m_in h (by omega), m_V1 h, m_in h (by omega), ?_⟩
    rintro G1 rfl
    refine ⟨⟨rfl, rfl, rfl, j + 1, _, nI_1 j, by omega, rfl, hk.tr wA_k, ?_⟩, dec_up (by omega) (by omega)⟩
    have := MV.w (hv'.Vl h6 (f := j) (x := zcv S (plc (zrq S q 1) (zrq S q 2 + j))) q40 (by omega))
    have e := va_lt (V := zV S) (q := q) (k := j) (x := fun i => zcv S (plc (zrq S q 1) (zrq S q 2 + i)))
    rw [← e]
    exact this
end MBYC
