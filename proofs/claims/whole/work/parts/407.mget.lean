/-! ===== the reference: request, count, pass, cacheAge, cached ===== -/
def rqV (S : St) (i f : Nat) : Int32 := if f = 7 then zW S i else nI (zrq S i f)
section MGET
variable {X : Xt} {G : Gt} {m : Nat} {ℓ : Nat → Nat} {t : Tt} {S : St}
theorem rqV_is (hv : MV (tA t 0) S) {i f : Nat} (hi : i < 40) (hf : f < 10) : tA t 0 (280 + 12 * i + f) = rqV S i f := by
  unfold rqV
  by_cases e : f = 7
  · subst e; rw [if_pos rfl]; exact (hv.2.2.2.2.1 i hi).2.1
  · rw [if_neg e]; exact (hv.2.2.2.2.1 i hi).1 f hf e
theorem sm_request {x1 x2 : Int32} {Pr : Int32 → Gt → Prop} (h : ML G m ℓ) (hv : MV (tA t 0) S) (hw : WF S)
    (k1 : ¬ ((0 ≤ x1 ∧ x1 < nI (zn S 6)) ∧ 0 ≤ x2 ∧ x2 ≤ 8) → Pr 0 (mk G m ℓ (uS t 354 1)))
    (k3 : ∀ i f, x1 = nI i → i < zn S 6 → x2 = nI f → f ≤ 8 → Pr (rqV S i f) (mk G m ℓ (uS t 354 0))) : wX10_request X (mk G m ℓ t) m x1 x2 Pr := by
  have h40 : zn S 6 ≤ 40 := hw.1.2.2.2.2.2.2.1
  have bad : ¬ ((0 ≤ x1 ∧ x1 < nI (zn S 6)) ∧ 0 ≤ x2 ∧ x2 ≤ 8) → wX10_request_24 X Pr (mk G m ℓ t) m x1 x2 m 1 := by
    intro e
    refine ⟨m_T h, ?_⟩
    rw [ml_sI]
    rintro G1 rfl
    refine ⟨m_T h, fun _ => k1 e, fun z => ?_⟩
    rw [th] at z; exact absurd z (by decide)
  refine ⟨m_T h, sm_isRequest h hv h40 (fun i e1 e2 => ⟨fun z => absurd z (by decide), fun _ => s_in.mpr ?_⟩) (fun e => ⟨fun _ => bad (fun z => e z.1), fun z => absurd rfl z⟩)⟩
  subst e1
  by_cases hx : 0 ≤ x2 ∧ x2 ≤ 8
  · obtain ⟨f, rfl, _, f3⟩ := i_nat (lo := 0) (hi := 8) (by decide) (by decide) hx.1 hx.2
    rw [bI_t hx]
    refine ⟨fun z => absurd z (by decide), fun _ => ⟨m_T h, ?_⟩⟩
    rw [ml_sI]
    rintro G1 rfl
    refine ⟨m_T h, fun z => absurd th z, fun _ => ⟨m_T h, ℓ 0, m_R h, s_requestAt.mpr ?_⟩⟩
    rw [show (280 : Int32) + 12 * nI i = nI (280 + 12 * i) from ix2 280 12 i, n_add]
    refine ⟨m_V1 h, m_in h (by omega), ?_⟩
    rw [m_A h (by omega), show tA (uS t 354 0) 0 (280 + 12 * i + f) = rqV S i f from rqV_is hv (by omega) (by omega)]
    exact k3 i f rfl e2 rfl f3
  · rw [bI_f hx]
    exact ⟨fun _ => bad (fun z => hx z.2), fun z => absurd rfl z⟩
theorem sm_count {x1 : Int32} {Pr : Int32 → Gt → Prop} (h : ML G m ℓ) (hv : MV (tA t 0) S)
    (k1 : ¬ (0 ≤ x1 ∧ x1 ≤ 5) → Pr 0 (mk G m ℓ (uS t 354 1)))
    (k3 : ∀ i, x1 = nI i → i ≤ 5 → Pr (nI (zn S (10 + i))) (mk G m ℓ (uS t 354 0))) : wX10_count X (mk G m ℓ t) m x1 Pr := by
  refine s_in.mpr ?_
  by_cases hx : 0 ≤ x1 ∧ x1 ≤ 5
  · obtain ⟨i, rfl, _, i3⟩ := i_nat (lo := 0) (hi := 5) (by decide) (by decide) hx.1 hx.2
    rw [bI_t hx]
    refine ⟨fun z => absurd z (by decide), fun _ => ⟨m_T h, ?_⟩⟩
    rw [ml_sI]
    rintro G1 rfl
    refine ⟨m_T h, fun z => absurd th z, fun _ => ⟨m_T h, ℓ 0, m_R h, m_V1 h, ?_⟩⟩
    rw [show (10 : Int32) + nI i = nI (10 + i) from n_add (a := 10)]
    refine ⟨m_in h (by omega), ?_⟩
    rw [m_A h (by omega), show tA (uS t 354 0) 0 (10 + i) = nI (zn S (10 + i)) from hv.1 (10 + i) (by omega) (by omega)]
    exact k3 i rfl i3
  · rw [bI_f hx]
    refine ⟨fun _ => ⟨m_T h, ?_⟩, fun z => absurd rfl z⟩
    rw [ml_sI]
    rintro G1 rfl
    refine ⟨m_T h, fun _ => k1 hx, fun z => ?_⟩
    rw [th] at z; exact absurd z (by decide)
theorem u1_id {j : Nat} : u1 S j (zn S j) = S := by
  show mkS (va_up (zn S) j (zn S j)) _ _ _ _ _ _ _ _ _ _ _ _ = _
  rw [va_id]; rfl
theorem sm_pass {x1 : Int32} {Pr : Int32 → Gt → Prop} (h : ML G m ℓ) (hv : MV (tA t 0) S) (ht : zn S 0 < 2 ^ 30)
    (k1 : ∀ t', ¬ (0 ≤ x1 ∧ x1 ≤ 10000) → MV (tA t' 0) S → kVr (uS t 354 1) t' → Pr 0 (mk G m ℓ t'))
    (k2 : ∀ t' x, x1 = nI x → x ≤ 10000 → 10000000 < zn S 0 + x → MV (tA t' 0) S → kVr (uS t 354 2) t' → Pr 0 (mk G m ℓ t'))
    (k3 : ∀ t' x, x1 = nI x → x ≤ 10000 → zn S 0 + x ≤ 10000000 → MV (tA t' 0) (u1 S 0 (zn S 0 + x)) → kVr (uS t 354 0) t' → Pr (nI (zn S 0 + x)) (mk G m ℓ t')) : wX10_pass X (mk G m ℓ t) m x1 Pr := by
  have bad : ∀ c : Int32, c ≠ 0 → (∀ t', MV (tA t' 0) S → kVr (uS t 354 c) t' → Pr 0 (mk G m ℓ t')) → wX10_pass_34 X Pr (mk G m ℓ t) m x1 m c := by
    intro c hc kk
    refine ⟨m_T h, ?_⟩
    rw [ml_sI]
    rintro G1 rfl
    refine ⟨m_T h, ℓ 0, m_R h, m_V1 h, m_in h (j := 0) (by decide), m_T h, fun _ => ⟨m_V1 h, m_in h (j := 0) (by decide), ?_⟩, fun z => absurd (th.symm.trans z) hc⟩
    rw [show gA (mk G m ℓ (uS t 354 c)) (ℓ 0) (0 : Int32).toNatClampNeg = nI (zn S 0) from m_num (t := uS t 354 c) h hv (by decide) (by decide), show nI (zn S 0) + 0 = nI (zn S 0 + 0) from n_add (b := 0), show sA (mk G m ℓ (uS t 354 c)) (ℓ 0) (upd (gA (mk G m ℓ (uS t 354 c)) (ℓ 0)) (0 : Int32).toNatClampNeg (nI (zn S 0 + 0))) = _ from m_st (j := 0) h (by decide)]
    rintro G2 rfl
    have v2 := MV.w (t := uS t 354 c) (hv.num (j := 0) (x := zn S 0) (by decide) (by decide))
    rw [u1_id] at v2
    refine ⟨m_T h, fun _ => kk _ v2 wA_k, fun z => absurd ?_ hc⟩
    rw [ml_gI, (wA_k (t := uS t 354 c)).2.1, tS_uS, if_pos rfl] at z
    exact z
  refine s_in.mpr ?_
  by_cases hx : 0 ≤ x1 ∧ x1 ≤ 10000
  · obtain ⟨x, rfl, _, x3⟩ := i_nat (lo := 0) (hi := 10000) (by decide) (by decide) hx.1 hx.2
    rw [bI_t hx]
    refine ⟨fun _ => ⟨m_T h, ℓ 0, m_R h, m_V1 h, m_in h (j := 0) (by decide), ?_⟩, fun z => absurd z (by decide)⟩
    rw [show gA (mk G m ℓ t) (ℓ 0) (0 : Int32).toNatClampNeg = nI (zn S 0) from m_num h hv (by decide) (by decide), n_add, show nI (zn S 0 + x) ≤ 10000000 ↔ zn S 0 + x ≤ 10000000 from n_le (b := 10000000) (by omega) (by decide)]
    refine ⟨fun z => ⟨m_T h, ?_⟩, fun z => bad 2 (by decide) (fun t' a b => k2 t' x rfl x3 (by omega) a b)⟩
    rw [ml_sI]
    rintro G1 rfl
    refine ⟨m_T h, ℓ 0, m_R h, m_V1 h, m_in h (j := 0) (by decide), m_T h, fun z => absurd th z, fun _ => ⟨m_V1 h, m_in h (j := 0) (by decide), ?_⟩⟩
    rw [show gA (mk G m ℓ (uS t 354 0)) (ℓ 0) (0 : Int32).toNatClampNeg = nI (zn S 0) from m_num (t := uS t 354 0) h hv (by decide) (by decide), n_add, show sA (mk G m ℓ (uS t 354 0)) (ℓ 0) (upd (gA (mk G m ℓ (uS t 354 0)) (ℓ 0)) (0 : Int32).toNatClampNeg (nI (zn S 0 + x))) = _ from m_st (j := 0) h (by decide)]
    rintro G2 rfl
    have v2 := MV.w (t := uS t 354 0) (hv.num (j := 0) (x := zn S 0 + x) (by decide) (by decide))
    have e0 : gI (mk G m ℓ (wA (uS t 354 0) 0 (nI (zn S 0 + x)))) 354 m = 0 := by
      rw [ml_gI, (wA_k (t := uS t 354 0)).2.1, tS_uS, if_pos rfl]
    refine ⟨m_T h, fun z => absurd e0 z, fun _ => ⟨m_T h, ℓ 0, m_R h, m_V1 h, m_in h (j := 0) (by decide), ?_⟩⟩
    rw [show gA (mk G m ℓ (wA (uS t 354 0) 0 (nI (zn S 0 + x)))) (ℓ 0) (0 : Int32).toNatClampNeg = nI (zn S 0 + x) by rw [ml_gA0 h, wA_0]; exact pk_us]
    exact k3 _ x rfl x3 z v2 wA_k
  · rw [bI_f hx]
    exact ⟨fun z => absurd rfl z, fun _ => bad 1 (by decide) (fun t' a b => k1 t' hx a b)⟩
theorem sm_cacheAge {x1 x2 : Int32} {Pr : Int32 → Gt → Prop} (h : ML G m ℓ) (hv : MV (tA t 0) S) (hw : WF S)
    (k1 : ¬ ((1 ≤ x1 ∧ x1 ≤ 3) ∧ 0 ≤ x2 ∧ x2 ≤ 31) → Pr 0 (mk G m ℓ (tT t 1)))
    (k2 : ∀ d r, x1 = nI d → 1 ≤ d → d ≤ 3 → x2 = nI r → r < 32 → zcf S (plc d r) ≠ 1 → Pr (-1) (mk G m ℓ (uS t 354 0)))
    (k3 : ∀ d r, x1 = nI d → 1 ≤ d → d ≤ 3 → x2 = nI r → r < 32 → zcf S (plc d r) = 1 → Pr (nI (zn S 0 - zct S (plc d r))) (mk G m ℓ (uS t 354 0))) : wX10_cacheAge X (mk G m ℓ t) m x1 x2 Pr := by
  refine ⟨m_T h, ?_⟩
  rw [ml_sI]
  rintro G1 rfl
  refine s_isRegister.mpr ?_
  by_cases hx : (1 ≤ x1 ∧ x1 ≤ 3) ∧ 0 ≤ x2 ∧ x2 ≤ 31
  · obtain ⟨d, rfl, d1, d3⟩ := i_nat (lo := 1) (hi := 3) (by decide) (by decide) hx.1.1 hx.1.2
    obtain ⟨r, rfl, _, r3⟩ := i_nat (lo := 0) (hi := 31) (by decide) (by decide) hx.2.1 hx.2.2
    have hp := plc_lt ⟨d1, d3⟩ (show r < 32 by omega)
    obtain ⟨c1, c2, c3⟩ := hv.2.2.2.2.2.1 _ hp
    obtain ⟨w1, w2⟩ := hw.2.2.2.1 (plc d r)
    rw [bI_t hx]
    refine ⟨fun _ => s_cacheAt.mpr ?_, fun z => absurd z (by decide)⟩
    rw [ec_c2 d1, ec_c d1]
    refine ⟨m_T h, ℓ 0, m_R h, m_V1 h, m_in h (by omega), ?_⟩
    rw [m_A h (by omega), show tA (uS t 354 0) 0 (1400 + 3 * plc d r) = nI (zcf S (plc d r)) from c1]
    refine ⟨fun z => k2 d r rfl d1 d3 rfl (by omega) (fun e => z (by rw [e]; rfl)), fun z => ⟨m_T h, ℓ 0, m_R h, m_V1 h, m_in h (j := 0) (by decide), m_T h, ℓ 0, m_R h, m_V1 h, m_in h (by omega), ?_⟩⟩
    have ef : zcf S (plc d r) = 1 := n_inj (b := 1) (by omega) (by decide) z
    rw [m_A h (by omega), show tA (uS t 354 0) 0 (1400 + 3 * plc d r + 2) = nI (zct S (plc d r)) from c3, show gA (mk G m ℓ (uS t 354 0)) (ℓ 0) (0 : Int32).toNatClampNeg = nI (zn S 0) from m_num (t := uS t 354 0) h hv (by decide) (by decide), n_sub (w2 ef).2]
    exact k3 d r rfl d1 d3 rfl (by omega) ef
  · rw [bI_f hx]
    exact ⟨fun z => absurd rfl z, fun _ => ⟨m_T h, (s_fails h).mpr (k1 hx)⟩⟩
theorem sm_cached {x1 x2 : Int32} {Pr : Int32 → Gt → Prop} (h : ML G m ℓ) (hv : MV (tA t 0) S) (hw : WF S)
    (k1 : ¬ ((1 ≤ x1 ∧ x1 ≤ 3) ∧ 0 ≤ x2 ∧ x2 ≤ 31) → Pr 0 (mk G m ℓ (tT t 1)))
    (k2 : ∀ d r, x1 = nI d → 1 ≤ d → d ≤ 3 → x2 = nI r → r < 32 → zcf S (plc d r) ≠ 1 → Pr (-1) (mk G m ℓ (uS t 354 0)))
    (k3 : ∀ d r, x1 = nI d → 1 ≤ d → d ≤ 3 → x2 = nI r → r < 32 → zcf S (plc d r) = 1 → Pr (nI (zcv S (plc d r))) (mk G m ℓ (uS t 354 0))) : wX10_cached X (mk G m ℓ t) m x1 x2 Pr := by
  refine ⟨m_T h, ?_⟩
  rw [ml_sI]
  rintro G1 rfl
  refine s_isRegister.mpr ?_
  by_cases hx : (1 ≤ x1 ∧ x1 ≤ 3) ∧ 0 ≤ x2 ∧ x2 ≤ 31
  · obtain ⟨d, rfl, d1, d3⟩ := i_nat (lo := 1) (hi := 3) (by decide) (by decide) hx.1.1 hx.1.2
    obtain ⟨r, rfl, _, r3⟩ := i_nat (lo := 0) (hi := 31) (by decide) (by decide) hx.2.1 hx.2.2
    have hp := plc_lt ⟨d1, d3⟩ (show r < 32 by omega)
    obtain ⟨c1, c2, c3⟩ := hv.2.2.2.2.2.1 _ hp
    obtain ⟨w1, w2⟩ := hw.2.2.2.1 (plc d r)
    rw [bI_t hx]
    refine ⟨fun z => absurd z (by decide), fun _ => ⟨m_T h, s_cacheAt.mpr ?_⟩⟩
    rw [ec_c1 d1, ec_c d1]
    refine ⟨m_T h, ℓ 0, m_R h, m_V1 h, m_in h (by omega), ?_⟩
    rw [m_A h (by omega), show tA (uS t 354 0) 0 (1400 + 3 * plc d r) = nI (zcf S (plc d r)) from c1]
    refine ⟨fun z => k2 d r rfl d1 d3 rfl (by omega) (fun e => z (by rw [e]; rfl)), fun z => ⟨m_T h, ℓ 0, m_R h, m_V1 h, m_in h (by omega), ?_⟩⟩
    have ef : zcf S (plc d r) = 1 := n_inj (b := 1) (by omega) (by decide) z
    rw [m_A h (by omega), show tA (uS t 354 0) 0 (1400 + 3 * plc d r + 1) = nI (zcv S (plc d r)) from c2]
    exact k3 d r rfl d1 d3 rfl (by omega) ef
  · rw [bI_f hx]
    exact ⟨fun _ => ⟨m_T h, (s_fails h).mpr (k1 hx)⟩, fun z => absurd rfl z⟩
end MGET
