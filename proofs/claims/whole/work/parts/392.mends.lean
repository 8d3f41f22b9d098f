/-! ===== the reference: caches, ends, byCache, word ===== -/
/-- one number of the reference's array written -/
def wA (t : Tt) (j : Nat) (x : Int32) : Tt := uA t 0 (upd (tA t 0) j x)
theorem wA_0 {t : Tt} {j : Nat} {x : Int32} : tA (wA t j x) 0 = upd (tA t 0) j x := by unfold wA; rw [tA_uA, if_pos rfl]
theorem MV.w {t : Tt} {j : Nat} {x : Int32} {S : St} (h : MV (upd (tA t 0) j x) S) : MV (tA (wA t j x) 0) S := by rw [wA_0]; exact h
theorem wA_k {t : Tt} {j : Nat} {x : Int32} : kVr t (wA t j x) := kVr.u
def u3 (S : St) (cf cv ct : Nat → Nat) : St := mkS (zn S) (zrg S) (zro S) (ztp S) (zdl S) (zfl S) (zrq S) (zW S) (zV S) cf cv ct (zL S)
section MENDS
variable {X : Xt} {G : Gt} {m : Nat} {ℓ : Nat → Nat} {t : Tt} {S : St}
theorem m_st (h : ML G m ℓ) {j : Nat} {x : Int32} (hj : j < 8900) : sA (mk G m ℓ t) (ℓ 0) (upd (gA (mk G m ℓ t) (ℓ 0)) (nI j).toNatClampNeg x) = mk G m ℓ (wA t j x) := by
  rw [n_cl (by omega), ml_gA0 h, ml_sA0 h]; rfl
theorem ec_c {dv r : Nat} (hd : 1 ≤ dv) : (1400 : Int32) + 3 * (32 * (nI dv - 1) + nI r) = nI (1400 + 3 * plc dv r) := by
  rw [show nI dv - 1 = nI (dv - 1) from n_sub (b := 1) hd, show (32 : Int32) * nI (dv - 1) = nI (32 * (dv - 1)) from pk_mul 32 _, n_add, show (3 : Int32) * nI (32 * (dv - 1) + r) = nI (3 * (32 * (dv - 1) + r)) from pk_mul 3 _]
  exact n_add (a := 1400)
theorem ec_c1 {dv r : Nat} (hd : 1 ≤ dv) : (1400 : Int32) + 3 * (32 * (nI dv - 1) + nI r) + 1 = nI (1400 + 3 * plc dv r + 1) := by rw [ec_c hd]; exact n_add (b := 1)
theorem ec_c2 {dv r : Nat} (hd : 1 ≤ dv) : (1400 : Int32) + 3 * (32 * (nI dv - 1) + nI r) + 2 = nI (1400 + 3 * plc dv r + 2) := by rw [ec_c hd]; exact n_add (b := 2)
theorem sm_caches {r v dv : Nat} {Pr : Gt → Prop} (h : ML G m ℓ) (hv : MV (tA t 0) S) (h6 : ∀ d, (zfl S d).length ≤ 6) (hd : 1 ≤ dv ∧ dv ≤ 3) (hr : r < 2 ^ 30) (hg : tS t 360 = nI dv)
    (k1 : ∀ t', r < 32 → MV (tA t' 0) (u3 S (va_up (zcf S) (plc dv r) 1) (va_up (zcv S) (plc dv r) v) (va_up (zct S) (plc dv r) (zn S 0))) → kVr t t' → Pr (mk G m ℓ t'))
    (k0 : ¬ r < 32 → Pr (mk G m ℓ t)) : wX10_caches X (mk G m ℓ t) m (nI r) (nI v) Pr := by
  refine s_in.mpr ?_
  by_cases hr32 : r < 32
  · have hp := plc_lt hd hr32
    have e1 : bI (0 ≤ nI r ∧ nI r ≤ 31) = 1 := bI_t ⟨nI_pos' (by omega), (n_le (b := 31) (by omega) (by decide)).mpr (by omega)⟩
    rw [e1]
    refine ⟨fun z => absurd z (by decide), fun _ => ⟨m_T h, ℓ 0, m_R h, m_T h, s_cacheAt.mpr ?_⟩⟩
    rw [ml_gI, hg, ec_c hd.1, m_st h (by omega)]
    refine ⟨m_V1 h, m_in h (by omega), ?_⟩
    rintro G1 rfl
    have v1 : MV (tA (wA t (1400 + 3 * plc dv r) 1) 0) (ucf S (va_up (zcf S) (plc dv r) 1)) := MV.w (hv.cf h6 (x := 1) hp)
    have g1 : tS (wA t (1400 + 3 * plc dv r) 1) 360 = nI dv := by rw [wA_k.2.1]; exact hg
    have q1 : kVr t (wA t (1400 + 3 * plc dv r) 1) := wA_k
    revert v1 g1 q1
    generalize wA t (1400 + 3 * plc dv r) 1 = t1
    intro v1 g1 q1
    refine ⟨m_T h, ℓ 0, m_R h, m_T h, s_cacheAt.mpr ?_⟩
    rw [ml_gI, g1, ec_c1 hd.1, m_st h (by omega)]
    refine ⟨m_V1 h, m_in h (by omega), ?_⟩
    rintro G2 rfl
    have v2 := MV.w (v1.cv h6 (x := v) hp)
    have g2 : tS (wA t1 (1400 + 3 * plc dv r + 1) (nI v)) 360 = nI dv := by rw [wA_k.2.1]; exact g1
    have q2 : kVr t (wA t1 (1400 + 3 * plc dv r + 1) (nI v)) := q1.tr wA_k
    revert v2 g2 q2
    generalize wA t1 (1400 + 3 * plc dv r + 1) (nI v) = t2
    intro v2 g2 q2
    refine ⟨m_T h, ℓ 0, m_R h, m_T h, s_cacheAt.mpr ?_⟩
    rw [ml_gI, g2, ec_c2 hd.1]
    refine ⟨m_T h, ℓ 0, m_R h, m_V1 h, m_in h (j := 0) (by decide), m_V1 h, m_in h (by omega), ?_⟩
    rw [show gA (mk G m ℓ t2) (ℓ 0) (0 : Int32).toNatClampNeg = nI (zn S 0) from m_num h v2 (by decide) (by decide), m_st h (by omega)]
    rintro G3 rfl
    refine k1 _ hr32 ?_ (q2.tr wA_k)
    rw [wA_0]
    exact v2.ct h6 (x := zn S 0) hp
  · have e0 : bI (0 ≤ nI r ∧ nI r ≤ 31) = 0 := bI_f (fun e => by have := (n_le (b := 31) (by omega) (by decide)).mp e.2; omega)
    rw [e0]
    exact ⟨fun _ => k0 hr32, fun z => absurd rfl z⟩
/-- request i ended -/
def u5 (S : St) (i st cd : Nat) : St := mkS (zn S) (zrg S) (zro S) (ztp S) (zdl S) (zfl S) (va_up (zrq S) i (fun j => if j = 5 then st else if j = 6 then cd else zrq S i j)) (va_up (zW S) i (nI (zn S 0))) (zV S) (zcf S) (zcv S) (zct S) (zL S)
theorem sm_ends {i st cd : Nat} {Pr : Gt → Prop} (h : ML G m ℓ) (hv : MV (tA t 0) S) (h6 : ∀ d, (zfl S d).length ≤ 6) (hi : i < 40)
    (k : ∀ t', MV (tA t' 0) (u5 S i st cd) → kVr t t' → Pr (mk G m ℓ t')) : wX10_ends X (mk G m ℓ t) m (nI i) (nI st) (nI cd) Pr := by
  have e5 : (280 : Int32) + 12 * nI i + 5 = nI (280 + 12 * i + 5) := ix3 280 12 5 i
  have e6 : (280 : Int32) + 12 * nI i + 6 = nI (280 + 12 * i + 6) := ix3 280 12 6 i
  have e7 : (280 : Int32) + 12 * nI i + 7 = nI (280 + 12 * i + 7) := ix3 280 12 7 i
  refine ⟨m_T h, ℓ 0, m_R h, s_requestAt.mpr ?_⟩
  rw [e5, m_st h (by omega)]
  refine ⟨m_V1 h, m_in h (by omega), ?_⟩
  rintro G1 rfl
  have v1 := MV.w (hv.rq h6 (f := 5) (x := st) hi (by decide) (by decide))
  have q1 : kVr t (wA t (280 + 12 * i + 5) (nI st)) := wA_k
  revert v1 q1
  generalize wA t (280 + 12 * i + 5) (nI st) = t1
  intro v1 q1
  refine ⟨m_T h, ℓ 0, m_R h, s_requestAt.mpr ?_⟩
  rw [e6, m_st h (by omega)]
  refine ⟨m_V1 h, m_in h (by omega), ?_⟩
  rintro G2 rfl
  have v2 := MV.w (v1.rq h6 (f := 6) (x := cd) hi (by decide) (by decide))
  have q2 : kVr t (wA t1 (280 + 12 * i + 6) (nI cd)) := q1.tr wA_k
  revert v2 q2
  generalize wA t1 (280 + 12 * i + 6) (nI cd) = t2
  intro v2 q2
  refine ⟨m_T h, ℓ 0, m_R h, s_requestAt.mpr ?_⟩
  rw [e7]
  refine ⟨m_T h, ℓ 0, m_R h, m_V1 h, m_in h (j := 0) (by decide), m_V1 h, m_in h (by omega), ?_⟩
  rw [show gA (mk G m ℓ t2) (ℓ 0) (0 : Int32).toNatClampNeg = nI (zn S 0) from m_num h v2 (by decide) (by decide), m_st h (by omega)]
  rintro G3 rfl
  refine k _ ?_ (q2.tr wA_k)
  rw [wA_0]
  have := v2.Wh h6 (x := nI (zn S 0)) hi
  have e : va_up (zrq S) i (fun j => if j = 5 then st else if j = 6 then cd else zrq S i j) = va_up (va_up (zrq S) i (va_up (zrq S i) 5 st)) i (va_up (va_up (zrq S) i (va_up (zrq S i) 5 st) i) 6 cd) := by
    rw [va_tw, va_up_self]
    congr 1
    funext j
    unfold va_up
    by_cases q : j = 5
    · subst q; rfl
    · rw [if_neg q]
      by_cases q2 : j = 6
      · rw [if_pos q2, if_pos q2]
      · rw [if_neg q2, if_neg q2, if_neg q]
  unfold u5
  rw [e]
  exact this
theorem sm_word {k : Nat} {r : Rp} {Pr : Int32 → Gt → Prop} (h : ML G m ℓ) (hr : MTk t r) (hk : 5 + 2 * k ≤ r.2.2.length) (hl : r.2.2.length ≤ 37) (p : Pr (nI (wd r.2.2 (3 + 2 * k))) (mk G m ℓ t)) : wX10_word X (mk G m ℓ t) m (nI k) Pr := by
  have e6 : (6 : Int32) + 2 * nI k = nI (3 + (3 + 2 * k)) := by rw [show (6 : Int32) + 2 * nI k = nI (6 + 2 * k) from ix2 6 2 k]; congr 1; omega
  have e7 : (7 : Int32) + 2 * nI k = nI (3 + (3 + 2 * k + 1)) := by rw [show (7 : Int32) + 2 * nI k = nI (7 + 2 * k) from ix2 7 2 k]; congr 1; omega
  unfold wX10_word
  rw [e6, e7]
  refine ⟨m_T h, ℓ 12, m_RT h, by rw [m_Tk h], by rw [m_Tk h]; exact n_in (by omega) (by decide), m_T h, ℓ 12, m_RT h, by rw [m_Tk h], by rw [m_Tk h]; exact n_in (by omega) (by decide), ?_⟩
  rw [n_cl (by omega), n_cl (by omega), ml_gA12 h, hr.2.2.2 _ (by omega), hr.2.2.2 _ (by omega), show (256 : Int32) * nI (r.2.2.getD (3 + 2 * k) 0) = nI (256 * r.2.2.getD (3 + 2 * k) 0) from pk_mul 256 _, n_add]
  rw [show wd r.2.2 (3 + 2 * k) = 256 * r.2.2.getD (3 + 2 * k) 0 + r.2.2.getD (3 + 2 * k + 1) 0 by unfold wd; rw [if_pos (by omega)]; omega] at p
  exact p
end MENDS
