/-! ===== the reference: its array holds the state ===== -/
def MV (v : Nat → Int32) (S : St) : Prop :=
  (∀ j, j < 16 → j ≠ 9 → v j = nI (zn S j)) ∧ v 9 = nI (zL S).length ∧
  (∀ d r, 1 ≤ d → d ≤ 3 → r < 32 → v (20 + plc d r) = nI (zrg S d r) ∧ v (120 + plc d r) = nI (zro S d r)) ∧
  (∀ d, 1 ≤ d → d ≤ 3 → v (219 + d) = nI (ztp S d) ∧ v (223 + d) = nI (zdl S d) ∧ v (217 + 13 * d) = nI (zfl S d).length ∧ ∀ k, k < (zfl S d).length → v (217 + 13 * d + 1 + 2 * k) = nI ((zfl S d).getD k (0, 0)).1 ∧ v (217 + 13 * d + 2 + 2 * k) = nI ((zfl S d).getD k (0, 0)).2) ∧
  (∀ i, i < 40 → (∀ k, k < 10 → k ≠ 7 → v (280 + 12 * i + k) = nI (zrq S i k)) ∧ v (280 + 12 * i + 7) = zW S i ∧ ∀ k, k < 16 → v (760 + 16 * i + k) = nI (zV S i k)) ∧
  (∀ p, p < 96 → v (1400 + 3 * p) = nI (zcf S p) ∧ v (1400 + 3 * p + 1) = nI (zcv S p) ∧ v (1400 + 3 * p + 2) = nI (zct S p)) ∧
  (∀ k, k < (zL S).length → v (1700 + 42 * k) = nI ((zL S).getD k dr).1 ∧ v (1700 + 42 * k + 1) = nI ((zL S).getD k dr).2.2.length ∧ v (1700 + 42 * k + 2) = nI ((zL S).getD k dr).2.1 ∧ ∀ j, j < ((zL S).getD k dr).2.2.length → v (1700 + 42 * k + 3 + j) = nI (((zL S).getD k dr).2.2.getD j 0))
/-- what steps leave of the reference: thrown, aside, the listener -/
def smL (t t' : Tt) : Prop := tA t' 1 = tA t 1 ∧ tA t' 16 = tA t 16 ∧ tA t' 17 = tA t 17 ∧ ∀ f, f = 354 ∨ 365 ≤ f → tS t' f = tS t f
theorem smL.rf {t : Tt} : smL t t := ⟨rfl, rfl, rfl, fun _ _ => rfl⟩
theorem smL.tr {t t' t'' : Tt} (h : smL t t') (h' : smL t' t'') : smL t t'' := ⟨h'.1.trans h.1, h'.2.1.trans h.2.1, h'.2.2.1.trans h.2.2.1, fun f hf => (h'.2.2.2 f hf).trans (h.2.2.2 f hf)⟩
theorem smL.uA {t : Tt} {k : Nat} {g : Nat → Int32} (hk : k ≠ 1 ∧ k ≠ 16 ∧ k ≠ 17) : smL t (uA t k g) := ⟨by rw [tA_uA, if_neg (fun e => hk.1 e.symm)], by rw [tA_uA, if_neg (fun e => hk.2.1 e.symm)], by rw [tA_uA, if_neg (fun e => hk.2.2 e.symm)], fun _ _ => rfl⟩
theorem smL.uS {t : Tt} {f : Nat} {x : Int32} (hf : f ≠ 354 ∧ f < 365) : smL t (uS t f x) := ⟨rfl, rfl, rfl, fun f' h => by rw [tS_uS, if_neg (by omega)]⟩
theorem smL.uJ {t : Tt} {x : Int64} : smL t (uJ t x) := ⟨rfl, rfl, rfl, fun _ _ => rfl⟩
section MVS
variable {v : Nat → Int32} {S : St}
theorem MV.num (h : MV v S) {j x : Nat} (hj : j < 16) (h9 : j ≠ 9) : MV (upd v j (nI x)) (u1 S j x) := by
  obtain ⟨a1, a2, a3, a4, a5, a6, a7⟩ := h
  refine ⟨fun i hi hi9 => ?_, ?_, fun d r h1 h2 h3 => ?_, fun d h1 h2 => ?_, fun i hi => ?_, fun p hp => ?_, fun k hk => ?_⟩
  · show _ = nI (va_up (zn S) j x i)
    by_cases e : i = j
    · subst e; rw [pk_us, va_up_self]
    · rw [pk_un e, va_up_ne _ _ e]; exact a1 i hi hi9
  · rw [pk_un (by omega)]; exact a2
  · rw [pk_un (by omega), pk_un (by omega)]; exact a3 d r h1 h2 h3
  · obtain ⟨b1, b2, b3, b4⟩ := a4 d h1 h2
    refine ⟨by rw [pk_un (by omega)]; exact b1, by rw [pk_un (by omega)]; exact b2, by rw [pk_un (by omega)]; exact b3, fun k hk => ?_⟩
    rw [pk_un (by omega), pk_un (by omega)]; exact b4 k hk
  · obtain ⟨b1, b2, b3⟩ := a5 i hi
    refine ⟨fun k q1 q2 => by rw [pk_un (by omega)]; exact b1 k q1 q2, by rw [pk_un (by omega)]; exact b2, fun k hk => by rw [pk_un (by omega)]; exact b3 k hk⟩
  · rw [pk_un (by omega), pk_un (by omega), pk_un (by omega)]; exact a6 p hp
  · obtain ⟨b1, b2, b3, b4⟩ := a7 k hk
    refine ⟨by rw [pk_un (by omega)]; exact b1, by rw [pk_un (by omega)]; exact b2, by rw [pk_un (by omega)]; exact b3, fun j hj => by rw [pk_un (by omega)]; exact b4 j hj⟩
end MVS
theorem ix3 (a b c i : Nat) : nI a + nI b * nI i + nI c = nI (a + b * i + c) := by rw [pk_mul, n_add, n_add]
theorem ix2 (a b i : Nat) : nI a + nI b * nI i = nI (a + b * i) := by rw [pk_mul, n_add]
section MFIND
variable {X : Xt} {G : Gt} {m : Nat} {ℓ : Nat → Nat} {t : Tt} {S : St}
theorem m_T (h : ML G m ℓ) : gT (mk G m ℓ t) m = (1, 11) := h.1
theorem m_R (h : ML G m ℓ) : gR (mk G m ℓ t) 352 m = some (ℓ 0) := h.2.1.1
theorem m_V (h : ML G m ℓ) : gT (mk G m ℓ t) (ℓ 0) = (2, 8900) := h.2.2.1.1
theorem m_V1 (h : ML G m ℓ) : (gT (mk G m ℓ t) (ℓ 0)).1 = 2 := by rw [m_V h]
theorem m_in (h : ML G m ℓ) {j : Nat} (hj : j < 8900) : vp_in (nI j) (gT (mk G m ℓ t) (ℓ 0)).2 := by rw [m_V h]; exact n_in hj (by decide)
theorem m_A (h : ML G m ℓ) {j : Nat} (hj : j < 8900) : gA (mk G m ℓ t) (ℓ 0) (nI j).toNatClampNeg = tA t 0 j := by rw [ml_gA0 h, n_cl (by omega)]
theorem sm_isWaiting {i : Nat} {Pr : Int32 → Gt → Prop} (h : ML G m ℓ) (hv : MV (tA t 0) S) (hi : i < 40) (h5 : zrq S i 5 < 2 ^ 31) (y : zrq S i 5 = 0 → Pr 1 (mk G m ℓ t)) (n : zrq S i 5 ≠ 0 → Pr 0 (mk G m ℓ t)) : wX10_isWaiting X (mk G m ℓ t) m (nI i) Pr := by
  have e : (280 : Int32) + 12 * nI i + 5 = nI (280 + 12 * i + 5) := ix3 280 12 5 i
  refine ⟨m_T h, ℓ 0, m_R h, m_V1 h, ?_⟩
  show vp_in ((280 : Int32) + 12 * nI i + 5) _ ∧ _
  rw [e]
  refine ⟨m_in h (by omega), ?_⟩
  rw [m_A h (by omega), (hv.2.2.2.2.1 i hi).1 5 (by decide) (by decide)]
  exact ⟨fun z => n (fun q => z (by rw [q]; rfl)), fun z => y (n_inj (b := 0) h5 (by decide) z)⟩
theorem sm_end {i : Nat} {Pr : Int32 → Gt → Prop} (h : ML G m ℓ) (hv : MV (tA t 0) S) (hi : i < 40) (hp : Pr (nI (zrq S i 2 + zrq S i 3)) (mk G m ℓ t)) : wX10_end X (mk G m ℓ t) m (nI i) Pr := by
  have e2 : (280 : Int32) + 12 * nI i + 2 = nI (280 + 12 * i + 2) := ix3 280 12 2 i
  have e3 : (280 : Int32) + 12 * nI i + 3 = nI (280 + 12 * i + 3) := ix3 280 12 3 i
  refine ⟨m_T h, ℓ 0, m_R h, m_V1 h, ?_⟩
  show vp_in ((280 : Int32) + 12 * nI i + 2) _ ∧ gT _ m = (1, 11) ∧ ∃ b4, gR _ 352 m = some b4 ∧ (gT _ b4).1 = 2 ∧ vp_in ((280 : Int32) + 12 * nI i + 3) _ ∧ Pr (gA _ (ℓ 0) ((280 : Int32) + 12 * nI i + 2).toNatClampNeg + gA _ b4 ((280 : Int32) + 12 * nI i + 3).toNatClampNeg) _
  rw [e2, e3]
  refine ⟨m_in h (by omega), m_T h, ℓ 0, m_R h, m_V1 h, m_in h (by omega), ?_⟩
  rw [m_A h (by omega), m_A h (by omega), (hv.2.2.2.2.1 i hi).1 2 (by decide) (by decide), (hv.2.2.2.2.1 i hi).1 3 (by decide) (by decide), n_add]
  exact hp
end MFIND
