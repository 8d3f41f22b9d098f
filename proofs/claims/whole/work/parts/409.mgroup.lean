/-! ===== the reference: clearCache, group, frameByte ===== -/
def sumF (f : Nat → Nat) : Nat → Nat
  | 0 => 0
  | n + 1 => sumF f n + f n
/-- f with zeros before n -/
def zerF (f : Nat → Nat) (n : Nat) : Nat → Nat := fun p => if p < n then 0 else f p
theorem zerF_0 {f : Nat → Nat} : zerF f 0 = f := by funext p; unfold zerF; rw [if_neg (by omega)]
theorem zerF_s {f : Nat → Nat} {n : Nat} : va_up (zerF f n) n 0 = zerF f (n + 1) := by
  funext p
  by_cases e : p = n
  · subst e; rw [va_up_self]; unfold zerF; rw [if_pos (by omega)]
  · rw [va_up_ne _ _ e]
    unfold zerF
    by_cases e2 : p < n
    · rw [if_pos e2, if_pos (by omega)]
    · rw [if_neg e2, if_neg (by omega)]
section MGROUP
variable {X : Xt} {G : Gt} {m : Nat} {ℓ : Nat → Nat} {t : Tt} {S : St}
theorem sm_clearCache {Pr : Int32 → Gt → Prop} (h : ML G m ℓ) (hv : MV (tA t 0) S) (hw : WF S) (k : ∀ t', MV (tA t' 0) (ucf S (zerF (zcf S) 96)) → kVr (uS t 354 0) t' → Pr (nI (sumF (zcf S) 96)) (mk G m ℓ t')) : wX10_clearCache X (mk G m ℓ t) m Pr := by
  have h6 : ∀ d, (zfl S d).length ≤ 6 := fun d => (hw.2.1 d).2.2.2.2.1
  refine ⟨m_T h, ?_⟩
  rw [ml_sI]
  rintro G1 rfl
  refine ⟨fun K a0 x1 x2 => a0 = m ∧ ∃ n t', K = mk G m ℓ t' ∧ x2 = nI n ∧ n ≤ 96 ∧ x1 = nI (sumF (zcf S) n) ∧ MV (tA t' 0) (ucf S (zerF (zcf S) n)) ∧ kVr (uS t 354 0) t', fun _ _ _ x2 => 96 - x2.toNatClampNeg, ⟨rfl, 0, uS t 354 0, rfl, rfl, by omega, rfl, by rw [zerF_0]; exact hv, kVr.rf⟩, ?_⟩
  rintro K a0 x1 x2 ⟨rfl, n, t', rfl, rfl, hn, rfl, hv', hk⟩
  refine ⟨fun z => ?_, fun z => ?_⟩
  · have : n = 96 := by have := (n_le (a := 96) (by decide) (by omega)).mp z; omega
    subst this
    exact k t' hv' hk
  · have hn' : n < 96 := Nat.lt_of_not_le (fun e => z ((n_le (a := 96) (by decide) (by omega)).mpr e))
    rw [show (1400 : Int32) + 3 * nI n = nI (1400 + 3 * n) from ix2 1400 3 n]
    refine ⟨m_T h, ℓ 0, m_R h, m_V1 h, m_in h (by omega), m_T h, ℓ 0, m_R h, m_V1 h, m_in h (by omega), ?_⟩
    have e1 : tA t' 0 (1400 + 3 * n) = nI (zcf S n) := by
      rw [(hv'.2.2.2.2.2.1 n hn').1]
      show nI (zerF (zcf S) n n) = _
      unfold zerF
      rw [if_neg (by omega)]
    rw [m_A h (by omega), e1, n_add, m_st h (by omega)]
    rintro G2 rfl
    refine ⟨⟨rfl, n + 1, _, rfl, nI_1 n, by omega, rfl, ?_, hk.tr wA_k⟩, dec_up (L := 96) hn' (by decide)⟩
    have v2 := MV.w (hv'.cf h6 (x := 0) hn')
    rw [← zerF_s]
    exact v2
/-- the mask of the next group -/
noncomputable def nxM (S : St) : Nat := by
  classical
  exact if zn S 6 ≤ fwN (zrq S) (zn S 6) then 0 else if isC S (fwN (zrq S) (zn S 6)) then 2 ^ fwN (zrq S) (zn S 6) else gM (grpG S)
theorem nxM_0 (h : zn S 6 ≤ fwN (zrq S) (zn S 6)) : nxM S = 0 := by unfold nxM; exact if_pos h
theorem nxM_c (h : ¬ zn S 6 ≤ fwN (zrq S) (zn S 6)) (h2 : isC S (fwN (zrq S) (zn S 6))) : nxM S = 2 ^ fwN (zrq S) (zn S 6) := by unfold nxM; rw [if_neg h]; exact if_pos h2
theorem nxM_g (h : ¬ zn S 6 ≤ fwN (zrq S) (zn S 6)) (h2 : ¬ isC S (fwN (zrq S) (zn S 6))) : nxM S = gM (grpG S) := by unfold nxM; rw [if_neg h]; exact if_neg h2
theorem sm_group {Pr : Int64 → Gt → Prop} (h : ML G m ℓ) (hv : MV (tA t 0) S) (hw : WF S) (ht : zn S 0 < 2 ^ 30) (k : ∀ t', (∀ j, tA t' j = tA t j) → smL (uS t 354 0) t' → Pr (lN (nxM S)) (mk G m ℓ t')) : wX10_group X (mk G m ℓ t) m Pr := by
  have h40 : zn S 6 ≤ 40 := hw.1.2.2.2.2.2.2.1
  refine ⟨m_T h, ?_⟩
  rw [ml_sI]
  rintro G1 rfl
  refine ⟨m_T h, sm_firstWaiting (t := uS t 354 0) h hv hw (fun e => ⟨fun z => absurd z (by decide), fun _ => ?_⟩) (fun e => ⟨fun _ => ⟨m_T h, ?_⟩, fun z => absurd (nI_pos' (by omega)) z⟩)⟩
  · rw [nxM_0 e] at k
    exact k _ (fun _ => rfl) smL.rf
  · have ne : ¬ zn S 6 ≤ fwN (zrq S) (zn S 6) := by omega
    refine sm_isCached (t := uS t 354 0) h hv hw ht e (fun hc => ⟨fun z => absurd z (by decide), fun _ => ?_⟩) (fun hc => ⟨fun _ => ⟨m_T h, ?_⟩, fun z => absurd rfl z⟩)
    · rw [nxM_c ne hc] at k
      rw [l_shl (by omega)]
      exact k _ (fun _ => rfl) smL.rf
    · rw [nxM_g ne hc] at k
      refine sm_gathers (t := uS t 354 0) h hv hw e (fw_5 e) (fun t1 a1 sm1 e1 mg1 => ⟨m_T h, ?_⟩)
      rw [ml_gJ, mg1.1]
      exact k t1 a1 sm1
/-- the bytes of the next frame -/
noncomputable def nxF (S : St) : List Nat := by
  classical
  exact if zn S 6 ≤ fwN (zrq S) (zn S 6) then [] else if isC S (fwN (zrq S) (zn S 6)) then [] else gfb S (grpG S)
theorem nxF_0 (h : zn S 6 ≤ fwN (zrq S) (zn S 6)) : nxF S = [] := by unfold nxF; exact if_pos h
theorem nxF_c (h : ¬ zn S 6 ≤ fwN (zrq S) (zn S 6)) (h2 : isC S (fwN (zrq S) (zn S 6))) : nxF S = [] := by unfold nxF; rw [if_neg h]; exact if_pos h2
theorem nxF_g (h : ¬ zn S 6 ≤ fwN (zrq S) (zn S 6)) (h2 : ¬ isC S (fwN (zrq S) (zn S 6))) : nxF S = gfb S (grpG S) := by unfold nxF; rw [if_neg h]; exact if_neg h2
/-- byte x of the next frame, -1 behind it -/
noncomputable def fbV (S : St) (x : Int32) : Int32 := if nI (nxF S).length ≤ x then -1 else nI ((nxF S).getD x.toNatClampNeg 0)
theorem sm_frameByte {x1 : Int32} {Pr : Int32 → Gt → Prop} (h : ML G m ℓ) (hv : MV (tA t 0) S) (hw : WF S) (ht : zn S 0 < 2 ^ 30)
    (k1 : ¬ 0 ≤ x1 → Pr 0 (mk G m ℓ (tT t 1)))
    (k3 : ∀ t', 0 ≤ x1 → MV (tA t' 0) S → smL (uS t 354 0) t' → Pr (fbV S x1) (mk G m ℓ t')) : wX10_frameByte X (mk G m ℓ t) m x1 Pr := by
  have h40 : zn S 6 ≤ 40 := hw.1.2.2.2.2.2.2.1
  refine ⟨m_T h, ?_⟩
  rw [ml_sI]
  rintro G1 rfl
  refine ⟨fun hx => ⟨m_T h, sm_firstWaiting (t := uS t 354 0) h hv hw (fun e => ⟨fun _ => ?_, fun z => absurd (show (-1 : Int32) < 0 by decide) z⟩) (fun e => ⟨fun z => absurd z (n_neg (by omega)), fun _ => ⟨m_T h, ?_⟩⟩)⟩, fun hx => ⟨m_T h, (s_fails h).mpr (k1 hx)⟩⟩
  · have e0 : fbV S x1 = -1 := by unfold fbV; rw [nxF_0 e]; exact if_pos hx
    rw [e0] at k3
    exact k3 _ hx hv smL.rf
  · have ne : ¬ zn S 6 ≤ fwN (zrq S) (zn S 6) := by omega
    refine sm_isCached (t := uS t 354 0) h hv hw ht e (fun hc => ⟨fun z => absurd z (by decide), fun _ => ?_⟩) (fun hc => ⟨fun _ => ⟨m_T h, ?_⟩, fun z => absurd rfl z⟩)
    · have e0 : fbV S x1 = -1 := by unfold fbV; rw [nxF_c ne hc]; exact if_pos hx
      rw [e0] at k3
      exact k3 _ hx hv smL.rf
    · refine sm_gathers (t := uS t 354 0) h hv hw e (fw_5 e) (fun t1 a1 sm1 e1 mg1 => ⟨m_T h, ?_⟩)
      have ho : GO S (grpG S) := by
        obtain ⟨q1, q2, q3, q4, q5, q6, q7, q8⟩ := grp_ok hw e
        exact ⟨q1, q2, q3, q4, q5, q6, q7, q8, e⟩
      have hg1 : MGs t1 S (grpG S) := mg1
      have hv1 : MV (tA t1 0) S := by rw [a1]; exact hv
      refine sm_frames h hv1 hw ho hg1 (fun t2 f2 _ c2 => ⟨m_T h, ?_⟩)
      have hv2 : MV (tA t2 0) S := by rw [c2.1 0 (by decide) (by decide)]; exact hv1
      have sm2 := sm1.tr c2.a.sm
      have fin := k3 t2 hx hv2 sm2
      unfold fbV at fin
      rw [nxF_g ne hc] at fin
      rw [ml_gI, f2.1]
      refine ⟨fun z => ?_, fun z => ⟨m_T h, ℓ 9, m_R9 h, by rw [m_F h], ?_⟩⟩
      · rw [if_pos z] at fin; exact fin
      · rw [if_neg z] at fin
        have hl := f2.2.1
        obtain ⟨x, rfl, _, x3⟩ := i_nat (lo := 0) (hi := (gfb S (grpG S)).length) (by decide) (by omega) hx (Int32.le_of_lt (Int32.not_le.mp z))
        have hxl : x < (gfb S (grpG S)).length := Nat.lt_of_not_le (fun q => z ((n_le (by omega) (by omega)).mpr q))
        rw [m_F h]
        refine ⟨n_in (show x < 42 by omega) (by decide), ?_⟩
        rw [n_cl (by omega)] at fin ⊢
        rw [ml_gA9 h, f2.2.2.1 x hxl]
        exact fin
end MGROUP
