/-! ===== the reference: verdict, length ===== -/
section MVERD
variable {X : Xt} {G : Gt} {m : Nat} {ℓ : Nat → Nat} {t : Tt} {L : Hr}
theorem sm_isKept {x1 : Int32} {Pr : Int32 → Gt → Prop} (h : ML G m ℓ) (hh : MH t L) (hw : wfH L) (hx : 0 ≤ x1)
    (n : ¬ (x1 < 10 ∧ x1 < nI (hn L)) → Pr 0 (mk G m ℓ t)) (y : ∀ x, x1 = nI x → x < 10 → x < hn L → Pr 1 (mk G m ℓ t)) : wX10_isKept X (mk G m ℓ t) m x1 Pr := by
  have hn20 := hw.2.2.1
  refine ⟨fun z => n (fun e => absurd z (Int32.not_le.mpr e.1)), fun z => ⟨m_T h, ?_⟩⟩
  rw [ml_gI, hh.2.2.2.1]
  have z' : x1 < 10 := Int32.not_le.mp z
  obtain ⟨x, rfl, _, x3⟩ := i_nat (lo := 0) (hi := 10) (by decide) (by decide) hx (Int32.le_of_lt z')
  have x10 : x < 10 := (n_lt (b := 10) (by omega) (by decide)).mp z'
  rw [n_le (by omega) (by omega)]
  exact ⟨fun q => n (fun e => by have := (n_lt (by omega) (by omega)).mp e.2; omega), fun q => y x rfl x10 (by omega)⟩
theorem sm_verdict {x1 : Int32} {Pr : Int32 → Gt → Prop} (h : ML G m ℓ) (hh : MH t L) (hw : wfH L)
    (k1 : ¬ 0 ≤ x1 → Pr 0 (mk G m ℓ (uS t 354 1)))
    (k2 : 0 ≤ x1 → ¬ (x1 < 10 ∧ x1 < nI (hn L)) → Pr (-1) (mk G m ℓ (uS t 354 0)))
    (k3 : ∀ x, x1 = nI x → x < 10 → x < hn L → Pr (nI (hvd L ((hn L - 1 - x) % 10))) (mk G m ℓ (uS t 354 0))) : wX10_verdict X (mk G m ℓ t) m x1 Pr := by
  have hn20 := hw.2.2.1
  refine ⟨fun hx => ⟨m_T h, ?_⟩, fun hx => ⟨m_T h, ?_⟩⟩
  · rw [ml_sI]
    rintro G1 rfl
    have hh0 : MH (uS t 354 0) L := hh.th0
    refine ⟨fun _ => ⟨m_T h, sm_isKept h hh0 hw hx (fun e => ⟨fun _ => k2 hx e, fun z => absurd rfl z⟩) (fun x e1 e2 e3 => ⟨fun z => absurd z (by decide), fun _ => ⟨m_T h, ℓ 16, m_R16 h, m_T h, by rw [m_T16 h], ?_⟩⟩)⟩, fun z => absurd hx z⟩
    subst e1
    have hm : (hn L - 1 - x) % 10 < 10 := Nat.mod_lt _ (by decide)
    have er : nI (hn L - 1 - x) - nI (hn L - 1 - x) / 10 * 10 = nI ((hn L - 1 - x) % 10) := pk_rem (d := 10) (by omega) (by decide) (by decide)
    rw [ml_gI, hh0.2.2.2.1, show nI (hn L) - 1 = nI (hn L - 1) from n_sub (b := 1) (by omega), n_sub (by omega), er, m_T16 h, n_cl (by omega), ml_gA16 h, hh0.2.2.2.2.1 _ hm]
    exact ⟨n_in hm (by decide), k3 x rfl e2 e3⟩
  · rw [ml_sI]
    rintro G1 rfl
    exact ⟨fun z => absurd z hx, fun _ => k1 hx⟩
theorem sm_length {x1 : Int32} {Pr : Int32 → Gt → Prop} (h : ML G m ℓ) (hh : MH t L) (hw : wfH L)
    (k1 : ¬ 0 ≤ x1 → Pr 0 (mk G m ℓ (uS t 354 1)))
    (k2 : 0 ≤ x1 → ¬ (x1 < 10 ∧ x1 < nI (hn L)) → Pr (-1) (mk G m ℓ (uS t 354 0)))
    (k3 : ∀ x, x1 = nI x → x < 10 → x < hn L → Pr (nI (hln L ((hn L - 1 - x) % 10))) (mk G m ℓ (uS t 354 0))) : wX10_length X (mk G m ℓ t) m x1 Pr := by
  have hn20 := hw.2.2.1
  refine ⟨fun hx => ⟨m_T h, ?_⟩, fun hx => ⟨m_T h, ?_⟩⟩
  · rw [ml_sI]
    rintro G1 rfl
    have hh0 : MH (uS t 354 0) L := hh.th0
    refine ⟨fun _ => ⟨m_T h, sm_isKept h hh0 hw hx (fun e => ⟨fun _ => k2 hx e, fun z => absurd rfl z⟩) (fun x e1 e2 e3 => ⟨fun z => absurd z (by decide), fun _ => ⟨m_T h, ℓ 17, m_R17 h, m_T h, by rw [m_T17 h], ?_⟩⟩)⟩, fun z => absurd hx z⟩
    subst e1
    have hm : (hn L - 1 - x) % 10 < 10 := Nat.mod_lt _ (by decide)
    have er : nI (hn L - 1 - x) - nI (hn L - 1 - x) / 10 * 10 = nI ((hn L - 1 - x) % 10) := pk_rem (d := 10) (by omega) (by decide) (by decide)
    rw [ml_gI, hh0.2.2.2.1, show nI (hn L) - 1 = nI (hn L - 1) from n_sub (b := 1) (by omega), n_sub (by omega), er, m_T17 h, n_cl (by omega), ml_gA17 h, hh0.2.2.2.2.2 _ hm]
    exact ⟨n_in hm (by decide), k3 x rfl e2 e3⟩
  · rw [ml_sI]
    rintro G1 rfl
    exact ⟨fun z => absurd z hx, fun _ => k1 hx⟩
end MVERD
theorem sum_cnt {f : Nat → Nat} (h : ∀ p, f p ≤ 1) : ∀ n, sumF f n = cntF f n
  | 0 => rfl
  | n + 1 => by
    show sumF f n + f n = cntF f n + (if f n = 1 then 1 else 0)
    rw [sum_cnt h n]
    have := h n
    split <;> omega
