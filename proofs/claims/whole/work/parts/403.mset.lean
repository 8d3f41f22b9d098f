/-! ===== the reference: set, setDevice, poke, peek, protect ===== -/
def loS (i : Nat) : Nat := if i = 1 then 1 else 0
def hiS (i : Nat) : Nat := if i = 0 then 10000 else if i = 2 then 3 else if i = 4 then 1 else 1000
/-- thrown is c, the rest as before -/
abbrev tT (t : Tt) (c : Int32) : Tt := uS (uS t 354 0) 354 c
section MSMALL
variable {X : Xt} {G : Gt} {m : Nat} {ℓ : Nat → Nat} {t : Tt} {S : St}
theorem sm_sets' {j : Nat} {y : Int32} {Pr : Int32 → Gt → Prop} (h : ML G m ℓ) (hj : j < 8900) (p : Pr (tA t 0 j) (mk G m ℓ (wA t j y))) : wX10_sets X (mk G m ℓ t) m (nI j) y Pr := by
  refine (s_sets h).mpr ⟨n_in hj (by decide), ?_⟩
  rw [n_cl (by omega)]
  exact p
theorem nI_i {a b : Nat} (ha : a < 2 ^ 31) (hb : b < 2 ^ 31) : nI a = nI b ↔ a = b := nI_eq ha hb
theorem sm_set {x1 x2 : Int32} {Pr : Int32 → Gt → Prop} (h : ML G m ℓ) (hv : MV (tA t 0) S)
    (k1 : ¬ (0 ≤ x1 ∧ x1 ≤ 4) → Pr 0 (mk G m ℓ (tT t 1)))
    (k2 : ∀ i, x1 = nI i → i ≤ 4 → ¬ (nI (loS i) ≤ x2 ∧ x2 ≤ nI (hiS i)) → Pr 0 (mk G m ℓ (tT t 2)))
    (k3 : ∀ i v t', x1 = nI i → i ≤ 4 → x2 = nI v → loS i ≤ v → v ≤ hiS i → MV (tA t' 0) (u1 S (1 + i) v) → kVr (uS t 354 0) t' → Pr (nI (zn S (1 + i))) (mk G m ℓ t')) : wX10_set X (mk G m ℓ t) m x1 x2 Pr := by
  refine ⟨m_T h, ?_⟩
  rw [ml_sI]
  rintro G1 rfl
  refine s_in.mpr ?_
  by_cases hx : 0 ≤ x1 ∧ x1 ≤ 4
  · obtain ⟨i, rfl, _, hi⟩ := i_nat (lo := 0) (hi := 4) (by decide) (by decide) hx.1 hx.2
    rw [bI_t hx]
    have lh : loS i < 2 ^ 31 ∧ hiS i < 2 ^ 31 := by unfold loS hiS; refine ⟨?_, ?_⟩ <;> (repeat' split) <;> decide
    have l63 : wX10_set_63 X Pr (mk G m ℓ (uS t 354 0)) m (nI i) x2 (nI (hiS i)) x2 (nI (loS i)) := by
      refine s_in.mpr ?_
      by_cases hx2 : nI (loS i) ≤ x2 ∧ x2 ≤ nI (hiS i)
      · obtain ⟨v, rfl, v1, v2⟩ := i_nat lh.1 lh.2 hx2.1 hx2.2
        rw [bI_t hx2]
        refine ⟨fun z => absurd z (by decide), fun _ => ⟨m_T h, ?_⟩⟩
        rw [show (1 : Int32) + nI i = nI (1 + i) from n_add (a := 1)]
        refine sm_sets' h (by omega) ?_
        rw [show tA (uS t 354 0) 0 (1 + i) = nI (zn S (1 + i)) from hv.1 (1 + i) (by omega) (by omega)]
        exact k3 i v _ rfl hi rfl v1 v2 (MV.w (hv.num (j := 1 + i) (by omega) (by omega))) wA_k
      · rw [bI_f hx2]
        exact ⟨fun _ => ⟨m_T h, (s_fails h).mpr (k2 i rfl hi hx2)⟩, fun z => absurd rfl z⟩
    have l51 : ∀ y, y = nI (hiS i) → wX10_set_51 X Pr (mk G m ℓ (uS t 354 0)) m (nI i) x2 y := by
      rintro y rfl
      refine ⟨fun z => ?_, fun z => ?_⟩
      · have : loS i = 0 := if_neg (fun e => z (by rw [e]; rfl))
        rw [this] at l63; exact l63
      · have : loS i = 1 := if_pos (n_inj (b := 1) (by omega) (by decide) z)
        rw [this] at l63; exact l63
    refine ⟨fun _ => ⟨fun z0 => ⟨fun z2 => ⟨fun z4 => l51 _ ?_, fun z4 => l51 _ ?_⟩, fun z2 => l51 _ ?_⟩, fun z0 => l51 _ ?_⟩, fun z => absurd z (by decide)⟩
    · unfold hiS
      rw [if_neg (fun e => z0 (by rw [e]; rfl)), if_neg (fun e => z2 (by rw [e]; rfl)), if_neg (fun e => z4 (by rw [e]; rfl))]; rfl
    · have e := n_inj (b := 4) (by omega) (by decide) z4
      subst e; rfl
    · have e := n_inj (b := 2) (by omega) (by decide) z2
      subst e; rfl
    · have e := n_inj (b := 0) (by omega) (by decide) z0
      subst e; rfl
  · rw [bI_f hx]
    exact ⟨fun z => absurd rfl z, fun _ => ⟨m_T h, (s_fails h).mpr (k1 hx)⟩⟩
/-- the place of a register, as a number -/
theorem ec_r {b d r : Nat} (hd : 1 ≤ d) : nI b + (32 * (nI d - 1) + nI r) = nI (b + plc d r) := by
  rw [show nI d - 1 = nI (d - 1) from n_sub (b := 1) hd, show (32 : Int32) * nI (d - 1) = nI (32 * (d - 1)) from pk_mul 32 _, n_add, n_add]
  rfl
theorem sm_poke {x1 x2 x3 : Int32} {Pr : Int32 → Gt → Prop} (h : ML G m ℓ) (hv : MV (tA t 0) S) (h6 : ∀ d, (zfl S d).length ≤ 6)
    (k1 : ¬ ((1 ≤ x1 ∧ x1 ≤ 3) ∧ 0 ≤ x2 ∧ x2 ≤ 31) → Pr 0 (mk G m ℓ (tT t 1)))
    (k2 : ∀ d r, x1 = nI d → 1 ≤ d → d ≤ 3 → x2 = nI r → r < 32 → ¬ (0 ≤ x3 ∧ x3 ≤ 65535) → Pr 0 (mk G m ℓ (tT t 2)))
    (k3 : ∀ d r v t', x1 = nI d → 1 ≤ d → d ≤ 3 → x2 = nI r → r < 32 → x3 = nI v → v < 65536 → MV (tA t' 0) (urg S (va_up (zrg S) d (va_up (zrg S d) r v))) → kVr (uS t 354 0) t' → Pr (nI (zrg S d r)) (mk G m ℓ t')) : wX10_poke X (mk G m ℓ t) m x1 x2 x3 Pr := by
  refine ⟨m_T h, ?_⟩
  rw [ml_sI]
  rintro G1 rfl
  refine s_isRegister.mpr ?_
  by_cases hx : (1 ≤ x1 ∧ x1 ≤ 3) ∧ 0 ≤ x2 ∧ x2 ≤ 31
  · obtain ⟨d, rfl, d1, d3⟩ := i_nat (lo := 1) (hi := 3) (by decide) (by decide) hx.1.1 hx.1.2
    obtain ⟨r, rfl, _, r3⟩ := i_nat (lo := 0) (hi := 31) (by decide) (by decide) hx.2.1 hx.2.2
    have hp := plc_lt ⟨d1, d3⟩ (show r < 32 by omega)
    rw [bI_t hx]
    refine ⟨fun _ => s_in.mpr ?_, fun z => absurd z (by decide)⟩
    by_cases hx3 : 0 ≤ x3 ∧ x3 ≤ 65535
    · obtain ⟨v, rfl, _, v3⟩ := i_nat (lo := 0) (hi := 65535) (by decide) (by decide) hx3.1 hx3.2
      rw [bI_t hx3]
      refine ⟨fun z => absurd z (by decide), fun _ => s_registerAt.mpr ⟨m_T h, ?_⟩⟩
      rw [show (20 : Int32) + (32 * (nI d - 1) + nI r) = nI (20 + plc d r) from ec_r (b := 20) d1]
      refine sm_sets' h (by omega) ?_
      rw [show tA (uS t 354 0) 0 (20 + plc d r) = nI (zrg S d r) from (hv.2.2.1 d r d1 d3 (by omega)).1]
      exact k3 d r v _ rfl d1 d3 rfl (by omega) rfl (by omega) (MV.w (hv.rg h6 ⟨d1, d3⟩ (by omega))) wA_k
    · rw [bI_f hx3]
      exact ⟨fun _ => ⟨m_T h, (s_fails h).mpr (k2 d r rfl d1 d3 rfl (by omega) hx3)⟩, fun z => absurd rfl z⟩
  · rw [bI_f hx]
    exact ⟨fun z => absurd rfl z, fun _ => ⟨m_T h, (s_fails h).mpr (k1 hx)⟩⟩
theorem sm_peek {x1 x2 : Int32} {Pr : Int32 → Gt → Prop} (h : ML G m ℓ) (hv : MV (tA t 0) S)
    (k1 : ¬ ((1 ≤ x1 ∧ x1 ≤ 3) ∧ 0 ≤ x2 ∧ x2 ≤ 31) → Pr 0 (mk G m ℓ (tT t 1)))
    (k3 : ∀ d r, x1 = nI d → 1 ≤ d → d ≤ 3 → x2 = nI r → r < 32 → Pr (nI (zrg S d r)) (mk G m ℓ (uS t 354 0))) : wX10_peek X (mk G m ℓ t) m x1 x2 Pr := by
  refine ⟨m_T h, ?_⟩
  rw [ml_sI]
  rintro G1 rfl
  refine s_isRegister.mpr ?_
  by_cases hx : (1 ≤ x1 ∧ x1 ≤ 3) ∧ 0 ≤ x2 ∧ x2 ≤ 31
  · obtain ⟨d, rfl, d1, d3⟩ := i_nat (lo := 1) (hi := 3) (by decide) (by decide) hx.1.1 hx.1.2
    obtain ⟨r, rfl, _, r3⟩ := i_nat (lo := 0) (hi := 31) (by decide) (by decide) hx.2.1 hx.2.2
    have hp := plc_lt ⟨d1, d3⟩ (show r < 32 by omega)
    rw [bI_t hx]
    refine ⟨fun z => absurd z (by decide), fun _ => ⟨m_T h, ℓ 0, m_R h, s_registerAt.mpr ?_⟩⟩
    rw [show (20 : Int32) + (32 * (nI d - 1) + nI r) = nI (20 + plc d r) from ec_r (b := 20) d1]
    refine ⟨m_V1 h, m_in h (by omega), ?_⟩
    rw [m_A h (by omega), show tA (uS t 354 0) 0 (20 + plc d r) = nI (zrg S d r) from (hv.2.2.1 d r d1 d3 (by omega)).1]
    exact k3 d r rfl d1 d3 rfl (by omega)
  · rw [bI_f hx]
    exact ⟨fun _ => ⟨m_T h, (s_fails h).mpr (k1 hx)⟩, fun z => absurd rfl z⟩
theorem sm_setDevice {x1 x2 x3 : Int32} {Pr : Int32 → Gt → Prop} (h : ML G m ℓ) (hv : MV (tA t 0) S) (h6 : ∀ d, (zfl S d).length ≤ 6)
    (k1 : ¬ ((1 ≤ x1 ∧ x1 ≤ 3) ∧ 0 ≤ x2 ∧ x2 ≤ 1) → Pr 0 (mk G m ℓ (tT t 1)))
    (k2 : ∀ d w, x1 = nI d → 1 ≤ d → d ≤ 3 → x2 = nI w → w ≤ 1 → ¬ (0 ≤ x3 ∧ x3 ≤ nI (if w = 0 then 1000 else 65535)) → Pr 0 (mk G m ℓ (tT t 2)))
    (k3 : ∀ d v t', x1 = nI d → 1 ≤ d → d ≤ 3 → x2 = 0 → x3 = nI v → v ≤ 1000 → MV (tA t' 0) (udl S (va_up (zdl S) d v)) → kVr (uS t 354 0) t' → Pr (nI (zdl S d)) (mk G m ℓ t'))
    (k4 : ∀ d v t', x1 = nI d → 1 ≤ d → d ≤ 3 → x2 = 1 → x3 = nI v → v ≤ 65535 → MV (tA t' 0) (utp S (va_up (ztp S) d v)) → kVr (uS t 354 0) t' → Pr (nI (ztp S d)) (mk G m ℓ t')) : wX10_setDevice X (mk G m ℓ t) m x1 x2 x3 Pr := by
  refine ⟨m_T h, ?_⟩
  rw [ml_sI]
  rintro G1 rfl
  refine s_in.mpr ?_
  by_cases hx : 1 ≤ x1 ∧ x1 ≤ 3
  · obtain ⟨d, rfl, d1, d3⟩ := i_nat (lo := 1) (hi := 3) (by decide) (by decide) hx.1 hx.2
    rw [bI_t hx]
    refine ⟨fun z => absurd z (by decide), fun _ => s_in.mpr ?_⟩
    by_cases hx2 : 0 ≤ x2 ∧ x2 ≤ 1
    · obtain ⟨w, rfl, _, w1⟩ := i_nat (lo := 0) (hi := 1) (by decide) (by decide) hx2.1 hx2.2
      rw [bI_t hx2]
      have l43 : ∀ y, y = nI (if w = 0 then 1000 else 65535) → wX10_setDevice_43 X Pr (mk G m ℓ (uS t 354 0)) m (nI d) (nI w) x3 x3 0 y := by
        rintro y rfl
        refine s_in.mpr ?_
        by_cases hx3 : 0 ≤ x3 ∧ x3 ≤ nI (if w = 0 then 1000 else 65535)
        · obtain ⟨v, rfl, _, v3⟩ := i_nat (lo := 0) (hi := if w = 0 then 1000 else 65535) (by decide) (by split <;> decide) hx3.1 hx3.2
          rw [bI_t hx3]
          refine ⟨fun z => absurd z (by decide), fun _ => ⟨fun z2 => ⟨m_T h, ?_⟩, fun z2 => ⟨m_T h, ?_⟩⟩⟩
          · have ew : w = 1 := by
              rcases (show w = 0 ∨ w = 1 by omega) with e | e
              · exact absurd (by rw [e]; rfl) z2
              · exact e
            subst ew
            rw [show (220 : Int32) + nI d - 1 = nI (219 + d) by rw [show (220 : Int32) + nI d = nI (220 + d) from n_add (a := 220), show nI (220 + d) - 1 = nI (220 + d - 1) from n_sub (b := 1) (by omega)]; congr 1; omega]
            refine sm_sets' h (by omega) ?_
            rw [show tA (uS t 354 0) 0 (219 + d) = nI (ztp S d) from (hv.2.2.2.1 d d1 d3).1]
            rw [if_neg (by decide)] at v3
            exact k4 d v _ rfl d1 d3 rfl rfl v3 (MV.w (hv.tp h6 ⟨d1, d3⟩)) wA_k
          · have ew : w = 0 := n_inj (b := 0) (by omega) (by decide) z2
            subst ew
            rw [show (224 : Int32) + nI d - 1 = nI (223 + d) by rw [show (224 : Int32) + nI d = nI (224 + d) from n_add (a := 224), show nI (224 + d) - 1 = nI (224 + d - 1) from n_sub (b := 1) (by omega)]; congr 1; omega]
            refine sm_sets' h (by omega) ?_
            rw [show tA (uS t 354 0) 0 (223 + d) = nI (zdl S d) from (hv.2.2.2.1 d d1 d3).2.1]
            rw [if_pos rfl] at v3
            exact k3 d v _ rfl d1 d3 rfl rfl v3 (MV.w (hv.dl h6 ⟨d1, d3⟩)) wA_k
        · rw [bI_f hx3]
          exact ⟨fun _ => ⟨m_T h, (s_fails h).mpr (k2 d w rfl d1 d3 rfl w1 hx3)⟩, fun z => absurd rfl z⟩
      refine ⟨fun _ => ⟨fun z2 => l43 _ ?_, fun z2 => l43 _ ?_⟩, fun z => absurd z (by decide)⟩
      · rw [if_neg (fun e => z2 (by rw [e]; rfl))]; rfl
      · rw [if_pos (n_inj (b := 0) (by omega) (by decide) z2)]; rfl
    · rw [bI_f hx2]
      exact ⟨fun z => absurd rfl z, fun _ => ⟨m_T h, (s_fails h).mpr (k1 (fun e => hx2 e.2))⟩⟩
  · rw [bI_f hx]
    exact ⟨fun _ => ⟨m_T h, (s_fails h).mpr (k1 (fun e => hx e.1))⟩, fun z => absurd rfl z⟩
end MSMALL
