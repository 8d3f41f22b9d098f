/-! ===== the reference: protect, fault ===== -/
theorem MV.pu {v : Nat → Int32} {S : St} {d a b : Nat} (h : MV v S) (hd : 1 ≤ d ∧ d ≤ 3) (h6 : ∀ e, (zfl S e).length ≤ 6) (hn : (zfl S d).length < 6) : MV (upd (upd (upd v (217 + 13 * d + 1 + 2 * (zfl S d).length) (nI a)) (217 + 13 * d + 2 + 2 * (zfl S d).length) (nI b)) (217 + 13 * d) (nI ((zfl S d).length + 1))) (ufl S (va_up (zfl S) d (zfl S d ++ [(a, b)]))) := by
  have e : ∀ j, j ≠ 217 + 13 * d → j ≠ 217 + 13 * d + 1 + 2 * (zfl S d).length → j ≠ 217 + 13 * d + 2 + 2 * (zfl S d).length → upd (upd (upd v (217 + 13 * d + 1 + 2 * (zfl S d).length) (nI a)) (217 + 13 * d + 2 + 2 * (zfl S d).length) (nI b)) (217 + 13 * d) (nI ((zfl S d).length + 1)) j = v j := fun j q1 q2 q3 => by
    rw [pk_un q1, pk_un q3, pk_un q2]
  have e0 : upd (upd (upd v (217 + 13 * d + 1 + 2 * (zfl S d).length) (nI a)) (217 + 13 * d + 2 + 2 * (zfl S d).length) (nI b)) (217 + 13 * d) (nI ((zfl S d).length + 1)) (217 + 13 * d) = nI ((zfl S d).length + 1) := pk_us
  have e1 : upd (upd (upd v (217 + 13 * d + 1 + 2 * (zfl S d).length) (nI a)) (217 + 13 * d + 2 + 2 * (zfl S d).length) (nI b)) (217 + 13 * d) (nI ((zfl S d).length + 1)) (217 + 13 * d + 1 + 2 * (zfl S d).length) = nI a := by
    rw [pk_un (by omega), pk_un (by omega), pk_us]
  have e2 : upd (upd (upd v (217 + 13 * d + 1 + 2 * (zfl S d).length) (nI a)) (217 + 13 * d + 2 + 2 * (zfl S d).length) (nI b)) (217 + 13 * d) (nI ((zfl S d).length + 1)) (217 + 13 * d + 2 + 2 * (zfl S d).length) = nI b := by
    rw [pk_un (by omega), pk_us]
  revert e e0 e1 e2
  generalize upd (upd (upd v (217 + 13 * d + 1 + 2 * (zfl S d).length) (nI a)) (217 + 13 * d + 2 + 2 * (zfl S d).length) (nI b)) (217 + 13 * d) (nI ((zfl S d).length + 1)) = v'
  intro e e0 e1 e2
  obtain ⟨a1, a2, a3, a4, a5, a6, a7⟩ := h
  refine ⟨fun j hj h9 => by rw [e j (by omega) (by omega) (by omega)]; exact a1 j hj h9, by rw [e 9 (by omega) (by omega) (by omega)]; exact a2, fun c r h1 h2 h3 => ?_, fun c h1 h2 => ?_, fun i hi => ?_, fun p hp => ?_, fun k hk => ?_⟩
  · have : plc c r < 96 := plc_lt ⟨h1, h2⟩ h3
    rw [e _ (by omega) (by omega) (by omega), e _ (by omega) (by omega) (by omega)]; exact a3 c r h1 h2 h3
  · obtain ⟨b1, b2, b3, b4⟩ := a4 c h1 h2
    have hc6 := h6 c
    refine ⟨by rw [e _ (by omega) (by omega) (by omega)]; exact b1, by rw [e _ (by omega) (by omega) (by omega)]; exact b2, ?_, ?_⟩
    · show v' (217 + 13 * c) = nI (va_up (zfl S) d (zfl S d ++ [(a, b)]) c).length
      by_cases ec : c = d
      · subst ec; rw [va_up_self, e0, List.length_append]; rfl
      · rw [va_up_ne _ _ ec, e _ (by omega) (by omega) (by omega)]; exact b3
    · show ∀ k, k < (va_up (zfl S) d (zfl S d ++ [(a, b)]) c).length → v' (217 + 13 * c + 1 + 2 * k) = nI ((va_up (zfl S) d (zfl S d ++ [(a, b)]) c).getD k (0, 0)).1 ∧ v' (217 + 13 * c + 2 + 2 * k) = nI ((va_up (zfl S) d (zfl S d ++ [(a, b)]) c).getD k (0, 0)).2
      by_cases ec : c = d
      · subst ec
        rw [va_up_self]
        intro k hk
        rw [List.length_append] at hk
        have hk' : k < (zfl S c).length + 1 := hk
        by_cases ek : k = (zfl S c).length
        · subst ek
          rw [e1, e2]
          have : (zfl S c ++ [(a, b)]).getD (zfl S c).length (0, 0) = (a, b) := by simp [List.getD]
          rw [this]
          exact ⟨rfl, rfl⟩
        · have hk2 : k < (zfl S c).length := by omega
          rw [e _ (by omega) (by omega) (by omega), e _ (by omega) (by omega) (by omega)]
          have : (zfl S c ++ [(a, b)]).getD k (0, 0) = (zfl S c).getD k (0, 0) := by simp [List.getD, List.getElem?_append_left hk2]
          rw [this]
          exact b4 k hk2
      · rw [va_up_ne _ _ ec]
        intro k hk
        rw [e _ (by omega) (by omega) (by omega), e _ (by omega) (by omega) (by omega)]
        exact b4 k hk
  · obtain ⟨b1, b2, b3⟩ := a5 i hi
    exact ⟨fun k h1 h2 => by rw [e _ (by omega) (by omega) (by omega)]; exact b1 k h1 h2, by rw [e _ (by omega) (by omega) (by omega)]; exact b2, fun k hk => by rw [e _ (by omega) (by omega) (by omega)]; exact b3 k hk⟩
  · rw [e _ (by omega) (by omega) (by omega), e _ (by omega) (by omega) (by omega), e _ (by omega) (by omega) (by omega)]; exact a6 p hp
  · obtain ⟨b1, b2, b3, b4⟩ := a7 k hk
    exact ⟨by rw [e _ (by omega) (by omega) (by omega)]; exact b1, by rw [e _ (by omega) (by omega) (by omega)]; exact b2, by rw [e _ (by omega) (by omega) (by omega)]; exact b3, fun j hj => by rw [e _ (by omega) (by omega) (by omega)]; exact b4 j hj⟩
section MFAULT
variable {X : Xt} {G : Gt} {m : Nat} {ℓ : Nat → Nat} {t : Tt} {S : St}
theorem sm_protect {x1 x2 x3 : Int32} {Pr : Int32 → Gt → Prop} (h : ML G m ℓ) (hv : MV (tA t 0) S) (hw : WF S)
    (k1 : ¬ ((1 ≤ x1 ∧ x1 ≤ 3) ∧ 0 ≤ x2 ∧ x2 ≤ 31) → Pr 0 (mk G m ℓ (uS t 354 1)))
    (k3 : ∀ d r v t', x1 = nI d → 1 ≤ d → d ≤ 3 → x2 = nI r → r < 32 → v = (if x3 = 0 then 0 else 1) → MV (tA t' 0) (uro S (va_up (zro S) d (va_up (zro S d) r v))) → kVr (uS t 354 0) t' → Pr (nI (zro S d r)) (mk G m ℓ t')) : wX10_protect X (mk G m ℓ t) m x1 x2 x3 Pr := by
  have h6 : ∀ d, (zfl S d).length ≤ 6 := fun d => (hw.2.1 d).2.2.2.2.1
  refine s_isRegister.mpr ?_
  by_cases hx : (1 ≤ x1 ∧ x1 ≤ 3) ∧ 0 ≤ x2 ∧ x2 ≤ 31
  · obtain ⟨d, rfl, d1, d3⟩ := i_nat (lo := 1) (hi := 3) (by decide) (by decide) hx.1.1 hx.1.2
    obtain ⟨r, rfl, _, r3⟩ := i_nat (lo := 0) (hi := 31) (by decide) (by decide) hx.2.1 hx.2.2
    have hp := plc_lt ⟨d1, d3⟩ (show r < 32 by omega)
    have ro1 : zro S d r ≤ 1 := (hw.2.1 d).2.1 r
    rw [bI_t hx]
    refine ⟨fun z => absurd z (by decide), fun _ => ⟨m_T h, ?_⟩⟩
    rw [ml_sI]
    rintro G1 rfl
    refine ⟨m_T h, fun z => absurd (show gI (mk G m ℓ (uS t 354 0)) 354 m = 0 by rw [ml_gI, tS_uS, if_pos rfl]) z, fun _ => s_registerAt.mpr ?_⟩
    rw [show (120 : Int32) + (32 * (nI d - 1) + nI r) = nI (120 + plc d r) from ec_r (b := 120) d1]
    have l42 : ∀ v, v = (if x3 = 0 then 0 else 1) → wX10_protect_42 X Pr (mk G m ℓ (uS t 354 0)) m (nI (120 + plc d r)) (nI v) := by
      intro v hvv
      refine ⟨m_T h, sm_sets' h (by omega) ?_⟩
      rw [show tA (uS t 354 0) 0 (120 + plc d r) = nI (zro S d r) from (hv.2.2.1 d r d1 d3 (by omega)).2]
      have fin := k3 d r v (wA (uS t 354 0) (120 + plc d r) (nI v)) rfl d1 d3 rfl (by omega) hvv (MV.w (t := uS t 354 0) (hv.ro h6 ⟨d1, d3⟩ (by omega))) wA_k
      refine ⟨fun z => ?_, fun z => ?_⟩
      · have e : zro S d r = 0 := by
          rcases (show zro S d r = 0 ∨ zro S d r = 1 by omega) with e | e
          · exact e
          · exact absurd (by rw [e]; rfl) z
        rw [e] at fin; exact fin
      · have e : zro S d r = 1 := n_inj (b := 1) (by omega) (by decide) z
        rw [e] at fin; exact fin
    exact ⟨fun z => l42 0 (by rw [if_pos z]), fun z => l42 1 (by rw [if_neg z])⟩
  · rw [bI_f hx]
    refine ⟨fun _ => ⟨m_T h, ?_⟩, fun z => absurd rfl z⟩
    rw [ml_sI]
    rintro G1 rfl
    have e1 : gI (mk G m ℓ (uS t 354 1)) 354 m = 1 := by rw [ml_gI, tS_uS, if_pos rfl]
    refine ⟨m_T h, fun _ => k1 hx, fun z => ?_⟩
    rw [e1] at z; exact absurd z (by decide)
theorem sm_fault {x1 x2 x3 : Int32} {Pr : Int32 → Gt → Prop} (h : ML G m ℓ) (hv : MV (tA t 0) S) (hw : WF S)
    (k1 : ¬ (1 ≤ x1 ∧ x1 ≤ 3) → Pr 0 (mk G m ℓ (tT t 1)))
    (k2 : ∀ d, x1 = nI d → 1 ≤ d → d ≤ 3 → ¬ ((1 ≤ x2 ∧ x2 ≤ 4) ∧ 0 ≤ x3 ∧ x3 ≤ 2000) → Pr 0 (mk G m ℓ (tT t 2)))
    (k3 : ∀ d a b, x1 = nI d → 1 ≤ d → d ≤ 3 → x2 = nI a → 1 ≤ a → a ≤ 4 → x3 = nI b → b ≤ 2000 → (zfl S d).length = 6 → Pr 0 (mk G m ℓ (tT t 3)))
    (k4 : ∀ d a b t', x1 = nI d → 1 ≤ d → d ≤ 3 → x2 = nI a → 1 ≤ a → a ≤ 4 → x3 = nI b → b ≤ 2000 → (zfl S d).length < 6 → MV (tA t' 0) (ufl S (va_up (zfl S) d (zfl S d ++ [(a, b)]))) → kVr (uS t 354 0) t' → Pr (nI ((zfl S d).length + 1)) (mk G m ℓ t')) : wX10_fault X (mk G m ℓ t) m x1 x2 x3 Pr := by
  have h6 : ∀ d, (zfl S d).length ≤ 6 := fun d => (hw.2.1 d).2.2.2.2.1
  refine ⟨m_T h, ?_⟩
  rw [ml_sI]
  rintro G1 rfl
  refine s_in.mpr ?_
  by_cases hx : 1 ≤ x1 ∧ x1 ≤ 3
  · obtain ⟨d, rfl, d1, d3⟩ := i_nat (lo := 1) (hi := 3) (by decide) (by decide) hx.1 hx.2
    rw [bI_t hx]
    refine ⟨fun _ => s_in.mpr ?_, fun z => absurd z (by decide)⟩
    by_cases hx2 : 1 ≤ x2 ∧ x2 ≤ 4
    · obtain ⟨a, rfl, a1, a4⟩ := i_nat (lo := 1) (hi := 4) (by decide) (by decide) hx2.1 hx2.2
      rw [bI_t hx2]
      refine ⟨fun z => absurd z (by decide), fun _ => s_in.mpr ?_⟩
      by_cases hx3 : 0 ≤ x3 ∧ x3 ≤ 2000
      · obtain ⟨b, rfl, _, b4⟩ := i_nat (lo := 0) (hi := 2000) (by decide) (by decide) hx3.1 hx3.2
        rw [bI_t hx3]
        refine ⟨fun _ => s_faults.mpr ?_, fun z => absurd z (by decide)⟩
        have ef : (230 : Int32) + 13 * (nI d - 1) = nI (217 + 13 * d) := by
          rw [show nI d - 1 = nI (d - 1) from n_sub (b := 1) d1, show (230 : Int32) + 13 * nI (d - 1) = nI (230 + 13 * (d - 1)) from ix2 230 13 (d - 1)]; congr 1; omega
        have hl := h6 d
        have rl : tA (uS t 354 0) 0 (217 + 13 * d) = nI (zfl S d).length := (hv.2.2.2.1 d d1 d3).2.2.1
        rw [ef]
        refine ⟨m_T h, ℓ 0, m_R h, m_V1 h, m_in h (by omega), ?_⟩
        rw [m_A h (by omega), rl]
        refine ⟨fun z => ⟨m_T h, ℓ 0, m_R h, m_T h, ℓ 0, m_R h, m_V1 h, m_in h (by omega), m_V1 h, ?_⟩, fun z => ⟨m_T h, (s_fails h).mpr (k3 d a b rfl d1 d3 rfl a1 a4 rfl b4 (n_inj (b := 6) (by omega) (by decide) z))⟩⟩
        have hn : (zfl S d).length < 6 := by
          rcases (show (zfl S d).length < 6 ∨ (zfl S d).length = 6 by omega) with e | e
          · exact e
          · exact absurd (by rw [e]; rfl) z
        have e1 : ∀ n, nI (217 + 13 * d) + 1 + 2 * nI n = nI (217 + 13 * d + 1 + 2 * n) := fun n => by
          rw [show nI (217 + 13 * d) + 1 = nI (217 + 13 * d + 1) from n_add (b := 1), show (2 : Int32) * nI n = nI (2 * n) from pk_mul 2 _, n_add]
        have e2 : ∀ n, nI (217 + 13 * d) + 2 + 2 * nI n = nI (217 + 13 * d + 2 + 2 * n) := fun n => by
          rw [show nI (217 + 13 * d) + 2 = nI (217 + 13 * d + 2) from n_add (b := 2), show (2 : Int32) * nI n = nI (2 * n) from pk_mul 2 _, n_add]
        rw [m_A h (by omega), rl, e1, m_st h (by omega)]
        refine ⟨m_in h (by omega), ?_⟩
        rintro G1 rfl
        refine ⟨m_T h, ℓ 0, m_R h, m_T h, ℓ 0, m_R h, m_V1 h, m_in h (by omega), m_V1 h, ?_⟩
        rw [m_A h (by omega), wA_0, pk_un (by omega), rl, e2, m_st h (by omega)]
        refine ⟨m_in h (by omega), ?_⟩
        rintro G2 rfl
        refine ⟨m_T h, ℓ 0, m_R h, m_V1 h, m_in h (by omega), m_V1 h, m_in h (by omega), ?_⟩
        rw [m_A h (by omega), wA_0, pk_un (by omega), wA_0, pk_un (by omega), rl, nI_1, m_st h (by omega)]
        rintro G3 rfl
        refine ⟨m_T h, ℓ 0, m_R h, m_V1 h, m_in h (by omega), ?_⟩
        rw [m_A h (by omega), wA_0, pk_us]
        refine k4 d a b _ rfl d1 d3 rfl a1 a4 rfl b4 hn ?_ ((wA_k.tr wA_k).tr wA_k)
        rw [wA_0, wA_0, wA_0]
        exact hv.pu ⟨d1, d3⟩ h6 hn
      · rw [bI_f hx3]
        exact ⟨fun z => absurd rfl z, fun _ => ⟨m_T h, (s_fails h).mpr (k2 d rfl d1 d3 (fun e => hx3 e.2))⟩⟩
    · rw [bI_f hx2]
      exact ⟨fun _ => ⟨m_T h, (s_fails h).mpr (k2 d rfl d1 d3 (fun e => hx2 e.1))⟩, fun z => absurd rfl z⟩
  · rw [bI_f hx]
    exact ⟨fun z => absurd rfl z, fun _ => ⟨m_T h, (s_fails h).mpr (k1 hx)⟩⟩
end MFAULT
