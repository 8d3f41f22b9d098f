/-! ===== all steps ===== -/
noncomputable def runS : Nat → St → St
  | 0, S => S
  | n + 1, S => runS n (stepS S).1
noncomputable def allS (S : St) : St := runS (wt S) S
/-- bounds by the requests that ended -/
def bd (S : St) : Prop := (zL S).length ≤ 4 * (zn S 6 - wt S) ∧ zn S 7 ≤ zn S 6 - wt S ∧ zn S 12 ≤ zn S 6 - wt S ∧ zn S 0 ≤ 10000000 + 10000 * (zn S 6 - wt S)
section ALLS
variable {S : St}
theorem wt_le : wt S ≤ zn S 6 := wtN_le _ _
theorem step_z (hw : WF S) (h : wt S = 0) : (stepS S).1 = S ∧ (stepS S).2 = 0 := by
  obtain ⟨⟨_, _, _, _, _, _, _, _, a9⟩, a10, _⟩ := step_ok hw
  have e : (stepS S).2 = 0 := by omega
  exact ⟨(a10 e).1, e⟩
theorem run_z (hw : WF S) (h : wt S = 0) : ∀ n, runS n S = S
  | 0 => rfl
  | n + 1 => by
    show runS n (stepS S).1 = S
    rw [(step_z hw h).1]; exact run_z hw h n
theorem run_n : ∀ (n : Nat) (S : St), WF S → wt S ≤ n → runS n S = allS S
  | 0, S, _, h => by unfold allS; rw [show wt S = 0 by omega]
  | n + 1, S, hw, h => by
    obtain ⟨⟨a1, _, _, _, _, _, _, _, a9⟩, a10, _⟩ := step_ok hw
    by_cases e : wt S = 0
    · rw [run_z hw e]
      unfold allS
      rw [run_z hw e]
    · have e2 : (stepS S).2 ≠ 0 := fun z => e (a10 z).2
      show runS n (stepS S).1 = _
      rw [run_n n _ a1 (by omega)]
      unfold allS
      rw [show wt S = (wt S - 1) + 1 by omega]
      show _ = runS (wt S - 1) (stepS S).1
      rw [run_n (wt S - 1) _ a1 (by omega)]
      rfl
theorem all_s (hw : WF S) : allS (stepS S).1 = allS S := by
  obtain ⟨⟨a1, _, _, _, _, _, _, _, a9⟩, a10, _⟩ := step_ok hw
  by_cases e : wt S = 0
  · rw [(step_z hw e).1]
  · have e2 : (stepS S).2 ≠ 0 := fun z => e (a10 z).2
    rw [← run_n (wt S - 1) _ a1 (by omega), ← run_n (wt S) S hw (Nat.le_refl _)]
    show _ = runS (wt S) S
    rw [show wt S = (wt S - 1) + 1 by omega]
    rfl
theorem all_z (h : wt S = 0) : allS S = S := by unfold allS; rw [h]; rfl
theorem bd_arith {a b e f : Nat} (h : a ≤ 10000000 + 10000 * e) (hb : b ≤ a + 5400) (hf : e + 1 ≤ f) : b ≤ 10000000 + 10000 * f := by
  have h1 : 10000 * (e + 1) ≤ 10000 * f := Nat.mul_le_mul_left _ hf
  rw [Nat.mul_add, Nat.mul_one] at h1
  generalize 10000 * e = x at *
  generalize 10000 * f = y at *
  have : b ≤ 10000000 + x + 5400 := Nat.le_trans hb (Nat.add_le_add_right h _)
  have : 10000000 + x + 5400 ≤ 10000000 + y := by
    rw [Nat.add_assoc]
    exact Nat.add_le_add_left (Nat.le_trans (Nat.add_le_add_left (by decide) x) h1) _
  omega
theorem bd_step (hw : WF S) (hb : bd S) : bd (stepS S).1 := by
  obtain ⟨⟨a1, a2, a3, a4, a5, a6, a7, a8, a9⟩, a10, a11⟩ := step_ok hw
  obtain ⟨b1, b2, b3, b4⟩ := hb
  by_cases e : (stepS S).2 = 0
  · rw [(a10 e).1]; exact ⟨b1, b2, b3, b4⟩
  · have n6 := a2 6 (by decide) (by decide)
    have wl := wt_le (S := S)
    unfold bd
    rw [n6]
    refine ⟨by omega, by omega, by omega, bd_arith b4 a4 (by omega)⟩
theorem bd_t (hw : WF S) (hb : bd S) : (zL S).length ≤ 160 ∧ zn S 0 < 2 ^ 26 ∧ zn S 7 ≤ 40 := by
  have s6 : zn S 6 ≤ 40 := hw.1.2.2.2.2.2.2.1
  obtain ⟨b1, b2, b3, b4⟩ := hb
  refine ⟨by omega, ?_, by omega⟩
  have h1 : 10000 * (zn S 6 - wt S) ≤ 10000 * 40 := Nat.mul_le_mul_left _ (by omega)
  have : zn S 0 ≤ 10000000 + 10000 * 40 := Nat.le_trans b4 (Nat.add_le_add_left h1 _)
  exact Nat.lt_of_le_of_lt this (by decide)
theorem run_ok : ∀ (n : Nat) (S : St), WF S → bd S → WF (runS n S) ∧ bd (runS n S) ∧ ∀ j, 1 ≤ j → j ≤ 6 → zn (runS n S) j = zn S j
  | 0, _, hw, hb => ⟨hw, hb, fun _ _ _ => rfl⟩
  | n + 1, S, hw, hb => by
    obtain ⟨⟨a1, a2, _⟩, _⟩ := step_ok hw
    obtain ⟨b1, b2, b3⟩ := run_ok n _ a1 (bd_step hw hb)
    exact ⟨b1, b2, fun j h1 h2 => (b3 j h1 h2).trans (a2 j h1 h2)⟩
theorem all_ok (hw : WF S) (hb : bd S) : WF (allS S) ∧ bd (allS S) ∧ ∀ j, 1 ≤ j → j ≤ 6 → zn (allS S) j = zn S j := run_ok _ _ hw hb
end ALLS
section MALL
variable {X : Xt} {G : Gt} {m : Nat} {ℓ : Nat → Nat} {t : Tt} {S : St}
/-- how many wait, read off the array -/
def mwt (ℓ : Nat → Nat) (n : Nat) (K : Gt) : Nat := wtN (fun i _ => (gA K (ℓ 0) (280 + 12 * i + 5)).toNatClampNeg) n
theorem mwt_is (h : ML G m ℓ) (hv : MV (tA t 0) S) (hw : WF S) : mwt ℓ (zn S 6) (mk G m ℓ t) = wt S := by
  have s6 : zn S 6 ≤ 40 := hw.1.2.2.2.2.2.2.1
  refine wtN_cg _ (fun i hi => ?_)
  show (gA (mk G m ℓ t) (ℓ 0) (280 + 12 * i + 5)).toNatClampNeg = zrq S i 5
  have := (hw.2.2.1.1 i hi).2.2.2.2.2.2.2.2.1
  rw [ml_gA0 h, (hv.2.2.2.2.1 i (by omega)).1 5 (by decide) (by decide), n_cl (by omega)]
theorem sm_stepsAll {Pr : Gt → Prop} (h : ML G m ℓ) (hv : MV (tA t 0) S) (hw : WF S) (hb : bd S) (k : ∀ t', MV (tA t' 0) (allS S) → smL t t' → Pr (mk G m ℓ t')) : wX10_stepsAll X (mk G m ℓ t) m Pr := by
  refine ⟨fun K a0 x1 => a0 = m ∧ ∃ T t' v, K = mk G m ℓ t' ∧ x1 = nI v ∧ v ≤ 40 ∧ MV (tA t' 0) T ∧ WF T ∧ bd T ∧ zn T 6 = zn S 6 ∧ allS T = allS S ∧ (v = 0 → wt T = 0) ∧ smL t t', fun K _ x1 => mwt ℓ (zn S 6) K + (if x1.toNatClampNeg = 0 then 0 else 1), ⟨rfl, S, t, 1, rfl, rfl, by decide, hv, hw, hb, rfl, rfl, fun z => absurd z (by decide), smL.rf⟩, ?_⟩
  rintro K a0 x1 ⟨rfl, T, t', v, rfl, rfl, hv40, hvT, hwT, hbT, e6, eA, ez, sm⟩
  refine ⟨fun z => ?_, fun z => ⟨m_T h, ?_⟩⟩
  · have v0 : v = 0 := by have := (n_le (a := v) (b := 0) (by omega) (by decide)).mp z; omega
    rw [← eA, all_z (ez v0)] at k
    exact k t' hvT sm
  · have v1 : v ≠ 0 := fun e => z (by rw [e]; decide)
    obtain ⟨q1, q2, q3⟩ := bd_t hwT hbT
    obtain ⟨⟨a1, a2, a3, a4, a5, a6, a7, a8, a9⟩, a10, a11⟩ := step_ok hwT
    have n6 := a2 6 (by decide) (by decide)
    refine sm_steps h hvT hwT q1 q2 (Nat.lt_of_le_of_lt q3 (by decide)) (fun t2 v2 sm2 => ⟨⟨rfl, (stepS T).1, t2, (stepS T).2, rfl, rfl, a11, v2, a1, bd_step hwT hbT, n6.trans e6, (all_s hwT).trans eA, fun e => ?_, sm.tr sm2⟩, ?_⟩)
    · rw [(a10 e).1]; exact (a10 e).2
    · have m1 : mwt ℓ (zn S 6) (mk G a0 ℓ t') = wt T := by rw [← e6]; exact mwt_is h hvT hwT
      have m2 : mwt ℓ (zn S 6) (mk G a0 ℓ t2) = wt (stepS T).1 := by rw [← e6, ← n6]; exact mwt_is h v2 a1
      show mwt ℓ (zn S 6) (mk G a0 ℓ t2) + (if (nI (stepS T).2).toNatClampNeg = 0 then 0 else 1) < mwt ℓ (zn S 6) (mk G a0 ℓ t') + (if (nI v).toNatClampNeg = 0 then 0 else 1)
      rw [m1, m2, n_cl (Nat.lt_of_le_of_lt a11 (by decide)), n_cl (Nat.lt_of_le_of_lt hv40 (by decide)), if_neg v1]
      split
      · omega
      · omega
theorem sm_step {Pr : Int32 → Gt → Prop} (h : ML G m ℓ) (hv : MV (tA t 0) S) (hw : WF S) (hb : bd S) (k : ∀ t', MV (tA t' 0) (stepS S).1 → smL (uS t 354 0) t' → Pr (nI (stepS S).2) (mk G m ℓ t')) : wX10_step X (mk G m ℓ t) m Pr := by
  obtain ⟨q1, q2, q3⟩ := bd_t hw hb
  refine ⟨m_T h, ?_⟩
  rw [ml_sI]
  rintro G1 rfl
  exact ⟨m_T h, sm_steps h hv hw q1 q2 (Nat.lt_of_le_of_lt q3 (by decide)) k⟩
theorem sm_finish {Pr : Int32 → Gt → Prop} (h : ML G m ℓ) (hv : MV (tA t 0) S) (hw : WF S) (hb : bd S) (k : ∀ t', MV (tA t' 0) (allS S) → smL (uS t 354 0) t' → Pr (nI (zn (allS S) 0)) (mk G m ℓ t')) : wX10_finish X (mk G m ℓ t) m Pr := by
  refine ⟨m_T h, ?_⟩
  rw [ml_sI]
  rintro G1 rfl
  refine ⟨m_T h, sm_stepsAll (t := uS t 354 0) h hv hw hb (fun t2 v2 sm2 => ⟨m_T h, ℓ 0, m_R h, m_V1 h, m_in h (j := 0) (by decide), ?_⟩)⟩
  rw [show gA (mk G m ℓ t2) (ℓ 0) (0 : Int32).toNatClampNeg = nI (zn (allS S) 0) from m_num h v2 (by decide) (by decide)]
  exact k t2 v2 sm2
end MALL
