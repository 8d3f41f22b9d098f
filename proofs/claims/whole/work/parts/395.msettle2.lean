/-! ===== the reference: settles ===== -/
section MSET
variable {X : Xt} {G : Gt} {m : Nat} {ℓ : Nat → Nat} {t : Tt} {S : St} {g : Gp} {b : List Nat} {cd : Nat}
/-- the values of the reply are there -/
def MWb (t : Tt) (S : St) (g : Gp) (b : List Nat) (cd : Nat) : Prop := cd = 0 → gw S g = false → ∃ r : Rp, MTk t r ∧ r.2.2 = b ∧ 5 + 2 * gwd g ≤ b.length ∧ b.length ≤ 37
theorem MWb.v {t' : Tt} (h : MWb t S g b cd) (k : kVr t t') : MWb t' S g b cd := fun h1 h2 => by
  obtain ⟨r, a1, a2, a3⟩ := h h1 h2
  refine ⟨r, ?_, a2, a3⟩
  unfold MTk
  rw [k.1 12 (by decide)]
  exact a1
theorem z0 {a : Nat} (h : a < 2 ^ 31) : nI a = 0 ↔ a = 0 := nI_eq (b := 0) h (by decide)
theorem l_166 {n k : Nat} {Pr : Int32 → Gt → Prop} {k66 : Gt → Nat → Int32 → Int32 → Int32 → Prop} {k106 : Gt → Nat → Int32 → Int32 → Int32 → Int32 → Int32 → Prop} {x2 : Int32} (h : ML G m ℓ) (hv : MV (tA t 0) (sIn S g b cd n k)) (hw : WF S) (ho : GO S g) (hg : MGs t S g) (hd : 1 ≤ gdv S g ∧ gdv S g ≤ 3) (hcd : cd < 256) (hn : n < zn S 6) (hm : mb (gM g) n = true) (hk : k < zrq S n 3)
    (kk : ∀ t', MV (tA t' 0) (sIn S g b cd n (k + 1)) → kVr t t' → k106 (mk G m ℓ t') m (nI cd) x2 (nI n) (nI (zrq S n 2)) (nI (k + 1))) : wX10_settles_166 X Pr k66 k106 (mk G m ℓ t) m (nI cd) x2 (nI n) (nI (zrq S n 2)) (nI k) (ℓ 0) (nI (760 + 16 * n + k)) (nI (mx S g b cd n k)) := by
  obtain ⟨n40, w0, w1, w2, w3, w4, w5, w6, w7, w8, w9⟩ := wf_rq hw hn
  have h6 : ∀ d, (zfl S d).length ≤ 6 := fun d => (hw.2.1 d).2.2.2.2.1
  obtain ⟨m1, m2, m3, m4, m5, m6, m7⟩ := ho.2.2.2.2.2.1 n hm
  obtain ⟨g1, g2, g3, g4, g5, g6⟩ := id hg
  have v1 := MV.w (hv.Vl h6 (f := k) (x := mx S g b cd n k) n40 (by omega))
  refine ⟨m_V1 h, m_in h (by omega), ?_⟩
  rw [m_st h (by omega)]
  rintro G1 rfl
  have c1 : kVr t (wA t (760 + 16 * n + k) (nI (mx S g b cd n k))) := wA_k
  revert v1 c1
  generalize wA t (760 + 16 * n + k) (nI (mx S g b cd n k)) = t1
  intro v1 c1
  have eV := va_lt (V := Vs (zV S) (zrq S) (gM g) n (mx S g b cd)) (q := n) (k := k) (x := mx S g b cd n)
  have v2 : MV (tA t1 0) (mkS (zn S) (zrg S) (zro S) (ztp S) (zdl S) (zfl S) (rqs (zrq S) (gM g) (mst cd) cd n) (Ws (zW S) (gM g) (nI (zn S 0)) n) (va_up (Vs (zV S) (zrq S) (gM g) n (mx S g b cd)) n (fun j => if j < k + 1 then mx S g b cd n j else Vs (zV S) (zrq S) (gM g) n (mx S g b cd) n j)) (mcf S g cd (if k = 0 then n else n + 1)) (zcv S) (zct S) (zL S)) := by
    rw [← eV]; exact v1
  have nx : ∀ t', kVr t t' → MV (tA t' 0) (mkS (zn S) (zrg S) (zro S) (ztp S) (zdl S) (zfl S) (rqs (zrq S) (gM g) (mst cd) cd n) (Ws (zW S) (gM g) (nI (zn S 0)) n) (va_up (Vs (zV S) (zrq S) (gM g) n (mx S g b cd)) n (fun j => if j < k + 1 then mx S g b cd n j else Vs (zV S) (zrq S) (gM g) n (mx S g b cd) n j)) (mcf S g cd (n + 1)) (zcv S) (zct S) (zL S)) → k106 (mk G m ℓ t') m (nI cd) x2 (nI n) (nI (zrq S n 2)) (nI k + 1) := by
    intro t' ht' hv'
    rw [nI_1]
    refine kk t' ?_ ht'
    unfold sIn
    rw [if_neg (show ¬ k + 1 = 0 by omega)]
    exact hv'
  have same : ¬ ((cd ≠ 0 ∧ gw S g = true) ∧ mb (gM g) n = true ∧ zrq S n 2 < 32) → k106 (mk G m ℓ t1) m (nI cd) x2 (nI n) (nI (zrq S n 2)) (nI k + 1) := fun e => by
    refine nx t1 c1 ?_
    have em : mcf S g cd (if k = 0 then n else n + 1) = mcf S g cd (n + 1) := by
      split
      · exact (mcf_n e).symm
      · rfl
    rw [em] at v2
    exact v2
  refine ⟨fun z => same (fun e => e.1.1 ?_), fun z => ⟨m_T h, ?_⟩⟩
  · have := (n_le (a := cd) (b := 0) (by omega) (by decide)).mp z; omega
  · have hc0 : cd ≠ 0 := fun e => z (by rw [e]; decide)
    rw [ml_gI, c1.2.1, g4, z0 (by omega)]
    refine ⟨fun z2 => same (fun e => ?_), fun z2 => ⟨fun z3 => same (fun e => ?_), fun z3 => ?_⟩⟩
    · have := gw_iff.mp e.1.2; omega
    · have := (n_le (a := 32) (by decide) (by omega)).mp z3; omega
    · have r32 : zrq S n 2 < 32 := Nat.lt_of_not_le (fun e => z3 ((n_le (a := 32) (by decide) (by omega)).mpr e))
      have hwq : gw S g = true := by
        refine gw_iff.mpr ?_
        have : zrq S (gq g) 4 ≤ 1 := by rw [← m5]; exact w6
        omega
      have hp := plc_lt hd r32
      refine ⟨m_T h, ℓ 0, m_R h, m_T h, s_cacheAt.mpr ?_⟩
      rw [ml_gI, c1.2.1, g3, ec_c hd.1, m_st h (by omega)]
      refine ⟨m_V1 h, m_in h (by omega), ?_⟩
      rintro G2 rfl
      have v3 := MV.w (v2.cf h6 (x := 0) hp)
      refine nx _ (c1.tr wA_k) ?_
      have em : va_up (mcf S g cd (if k = 0 then n else n + 1)) (plc (gdv S g) (zrq S n 2)) 0 = mcf S g cd (n + 1) := by
        split
        · exact mcf_y ⟨hc0, hwq⟩ hm r32
        · exact mcf_y' ⟨hc0, hwq⟩ hm r32
      rw [← em]
      exact v3
theorem l_106 {n : Nat} {Pr : Int32 → Gt → Prop} {k66 : Gt → Nat → Int32 → Int32 → Int32 → Prop} {x2 : Int32} (h : ML G m ℓ) (hv : MV (tA t 0) (sK S g b cd n)) (hw : WF S) (ho : GO S g) (hg : MGs t S g) (hb : MWb t S g b cd) (hd : 1 ≤ gdv S g ∧ gdv S g ≤ 3) (hcd : cd < 256) (hn : n < zn S 6) (hm : mb (gM g) n = true)
    (kk : ∀ t', MV (tA t' 0) (sK S g b cd (n + 1)) → kVr t t' → k66 (mk G m ℓ t') m (nI cd) (x2 + 1) (nI n + 1)) :
    ∃ (I : Gt → Nat → Int32 → Int32 → Int32 → Int32 → Int32 → Prop) (μ : Gt → Nat → Int32 → Int32 → Int32 → Int32 → Int32 → Nat), I (mk G m ℓ t) m (nI cd) x2 (nI n) (nI (zrq S n 2)) (0 : Int32) ∧ ∀ (G : Gt) (a0 : Nat) (x1 : Int32) (x2 : Int32) (x3 : Int32) (x4 : Int32) (x5 : Int32), I G a0 x1 x2 x3 x4 x5 → wX10_settles_106 X Pr k66 (fun G' a0' x1' x2' x3' x4' x5' => I G' a0' x1' x2' x3' x4' x5' ∧ μ G' a0' x1' x2' x3' x4' x5' < μ G a0 x1 x2 x3 x4 x5) G a0 x1 x2 x3 x4 x5 := by
  obtain ⟨n40, w0, w1, w2, w3, w4, w5, w6, w7, w8, w9⟩ := wf_rq hw hn
  have h6 : ∀ d, (zfl S d).length ≤ 6 := fun d => (hw.2.1 d).2.2.2.2.1
  obtain ⟨m1, m2, m3, m4, m5, m6, m7⟩ := ho.2.2.2.2.2.1 n hm
  have e3 : (280 : Int32) + 12 * nI n + 3 = nI (280 + 12 * n + 3) := ix3 280 12 3 n
  have e16 : (760 : Int32) + 16 * nI n = nI (760 + 16 * n) := ix2 760 16 n
  refine ⟨fun K a0 y1 y2 y3 y4 y5 => a0 = m ∧ y1 = nI cd ∧ y2 = x2 ∧ y3 = nI n ∧ y4 = nI (zrq S n 2) ∧ ∃ k t', y5 = nI k ∧ k ≤ zrq S n 3 ∧ K = mk G m ℓ t' ∧ kVr t t' ∧ MV (tA t' 0) (sIn S g b cd n k), fun _ _ _ _ _ _ y5 => zrq S n 3 - y5.toNatClampNeg, ⟨rfl, rfl, rfl, rfl, rfl, 0, t, rfl, by omega, rfl, kVr.rf, by rw [sK_i]; exact hv⟩, ?_⟩
  rintro K a0 y1 y2 y3 y4 y5 ⟨rfl, rfl, rfl, rfl, rfl, k, t', rfl, hk, rfl, ck, hv'⟩
  have r3 : tA t' 0 (280 + 12 * n + 3) = nI (zrq S n 3) := by
    have := (hv'.2.2.2.2.1 n n40).1 3 (by decide) (by decide)
    rw [this]
    show nI (rqs (zrq S) (gM g) (mst cd) cd n n 3) = _
    rw [rqs_n (Nat.le_refl n)]
  have hg' : MGs t' S g := MG.v hg ck
  obtain ⟨g1, g2, g3, g4, g5, g6⟩ := id hg'
  refine ⟨m_T h, ℓ 0, m_R h, s_requestAt.mpr ?_⟩
  rw [e3, e16, n_add, m_A h (by omega), r3, n_le (by omega) (by omega), z0 (by omega)]
  refine ⟨m_V1 h, m_in h (by omega), fun z => ⟨fun z2 => ⟨m_T h, ?_⟩, fun z2 => ⟨m_T h, ?_⟩⟩, fun z => ?_⟩
  · have ek : k = zrq S n 3 := by omega
    subst ek
    refine sm_ends (st := 2) (cd := cd) h hv' h6 n40 (fun t2 v2 k2 => kk t2 ?_ (ck.tr k2))
    have := sK_y (S := S) (g := g) (n := n) (b := b) (cd := cd) hm (by omega)
    rw [show mst cd = 2 from if_neg z2] at this
    rw [this] at v2
    exact v2
  · have ek : k = zrq S n 3 := by omega
    subst ek
    refine sm_ends (st := 1) (cd := cd) h hv' h6 n40 (fun t2 v2 k2 => kk t2 ?_ (ck.tr k2))
    have := sK_y (S := S) (g := g) (n := n) (b := b) (cd := cd) hm (by omega)
    rw [show mst cd = 1 from if_pos z2] at this
    rw [this] at v2
    exact v2
  · have kl : k < zrq S n 3 := by omega
    have go : ∀ (T : Tt), T = t' → ∀ v, v = nI (mx S g b cd n k) → wX10_settles_166 X Pr k66 (fun G' a0' x1' x2' x3' x4' x5' => (a0' = a0 ∧ x1' = nI cd ∧ x2' = y2 ∧ x3' = nI n ∧ x4' = nI (zrq S n 2) ∧ ∃ k t', x5' = nI k ∧ k ≤ zrq S n 3 ∧ G' = mk G a0 ℓ t' ∧ kVr t t' ∧ MV (tA t' 0) (sIn S g b cd n k)) ∧ zrq S n 3 - x5'.toNatClampNeg < zrq S n 3 - (nI k).toNatClampNeg) (mk G a0 ℓ T) a0 (nI cd) y2 (nI n) (nI (zrq S n 2)) (nI k) (ℓ 0) (nI (760 + 16 * n + k)) v := by
      rintro T rfl v rfl
      refine l_166 h hv' hw ho hg' hd hcd hn hm kl (fun t2 v2 k2 => ⟨⟨rfl, rfl, rfl, rfl, rfl, k + 1, t2, rfl, by omega, rfl, ck.tr k2, v2⟩, ?_⟩)
      rw [n_cl (by omega), n_cl (by omega)]; omega
    refine ⟨m_T h, ℓ 0, m_R h, fun z2 => go t' rfl _ ?_, fun z2 => ⟨m_T h, ?_⟩⟩
    · unfold mx; rw [if_neg (fun e => z2 e.1)]; rfl
    · rw [ml_gI, g4, ml_gI, g5, n_sub m6, n_add, z0 (by omega)]
      refine ⟨fun z3 => go t' rfl _ ?_, fun z3 => ⟨m_T h, m_T h, ?_⟩⟩
      · unfold mx
        rw [if_neg (fun e => ?_)]
        · rfl
        · have hne : ¬ gw S g = true := by rw [e.2]; decide
          have : zrq S (gq g) 4 ≤ 1 := by rw [← m5]; exact w6
          exact hne (gw_iff.mpr (by omega))
      · have hgw : gw S g = false := by
          cases hh : gw S g with
          | false => rfl
          | true => have := gw_iff.mp hh; omega
        obtain ⟨r, q1, q2, q3, q4⟩ := hb.v ck z2 hgw
        refine sm_word (r := r) h q1 (by rw [q2]; unfold gwd at q3; omega) (by rw [q2]; omega) (go t' rfl _ ?_)
        unfold mx
        rw [if_pos ⟨z2, hgw⟩, q2]
theorem l_66 {Pr : Int32 → Gt → Prop} (h : ML G m ℓ) (hv : MV (tA t 0) S) (hw : WF S) (ho : GO S g) (hg : MGs t S g) (hb : MWb t S g b cd) (hd : 1 ≤ gdv S g ∧ gdv S g ≤ 3) (hcd : cd < 256)
    (kk : ∀ t', MV (tA t' 0) (u1 (sK S g b cd (zn S 6)) 15 (zn S 15 + (cntM (gM g) 40 - 1))) → kVr t t' → Pr (nI (cntM (gM g) 40)) (mk G m ℓ t')) :
    ∃ (I : Gt → Nat → Int32 → Int32 → Int32 → Prop) (μ : Gt → Nat → Int32 → Int32 → Int32 → Nat), I (mk G m ℓ t) m (nI cd) (0 : Int32) (nI (gq g)) ∧ ∀ (G : Gt) (a0 : Nat) (x1 : Int32) (x2 : Int32) (x3 : Int32), I G a0 x1 x2 x3 → wX10_settles_66 X Pr (fun G' a0' x1' x2' x3' => I G' a0' x1' x2' x3' ∧ μ G' a0' x1' x2' x3' < μ G a0 x1 x2 x3) G a0 x1 x2 x3 := by
  obtain ⟨o1, o2, o3, o4, o5, o6, o7, o8, o9⟩ := id ho
  have s6 : zn S 6 ≤ 40 := hw.1.2.2.2.2.2.2.1
  have c0 : cntM (gM g) (gq g) = 0 := by
    have := cntM_fl (M := gM g) (a := 0) (gq g) (fun i _ h2 => by
      cases hh : mb (gM g) i with
      | false => rfl
      | true => have := (o6 i hh).1; omega)
    rw [Nat.zero_add] at this
    exact this
  have c40 : cntM (gM g) 40 = cntM (gM g) (zn S 6) := by
    have := cntM_fl (M := gM g) (a := zn S 6) (40 - zn S 6) (fun i h1 h2 => by
      cases hh : mb (gM g) i with
      | false => rfl
      | true => have := (o6 i hh).2.1; omega)
    rw [show zn S 6 + (40 - zn S 6) = 40 by omega] at this
    exact this
  refine ⟨fun K a0 y1 y2 y3 => a0 = m ∧ y1 = nI cd ∧ ∃ n t', y3 = nI n ∧ gq g ≤ n ∧ n ≤ zn S 6 ∧ y2 = nI (cntM (gM g) n) ∧ K = mk G m ℓ t' ∧ kVr t t' ∧ MV (tA t' 0) (sK S g b cd n), fun _ _ _ _ y3 => zn S 6 - y3.toNatClampNeg, ⟨rfl, rfl, gq g, t, rfl, Nat.le_refl _, by omega, by rw [c0]; rfl, rfl, kVr.rf, by rw [sK_0 (fun i hi => (o6 i hi).1)]; exact hv⟩, ?_⟩
  rintro K a0 y1 y2 y3 ⟨rfl, rfl, n, t', rfl, hn1, hn2, rfl, rfl, ck, hv'⟩
  have hg' : MGs t' S g := MG.v hg ck
  obtain ⟨g1, g2, g3, g4, g5, g6⟩ := id hg'
  refine ⟨m_T h, ℓ 0, m_R h, m_V1 h, m_in h (j := 6) (by decide), ?_⟩
  rw [show gA (mk G a0 ℓ t') (ℓ 0) (6 : Int32).toNatClampNeg = nI (zn S 6) from m_num h hv' (by decide) (by decide), n_le (by omega) (by omega)]
  refine ⟨fun z => ⟨m_T h, ℓ 0, m_R h, m_V1 h, m_in h (j := 15) (by decide), m_V1 h, m_in h (j := 15) (by decide), ?_⟩, fun z => ⟨m_T h, ?_⟩⟩
  · have en : n = zn S 6 := by omega
    subst en
    have c1 : 1 ≤ cntM (gM g) (zn S 6) := cntM_pos o5 _ o9
    rw [show gA (mk G a0 ℓ t') (ℓ 0) (15 : Int32).toNatClampNeg = nI (zn S 15) from m_num h hv' (by decide) (by decide), show nI (cntM (gM g) (zn S 6)) - 1 = nI (cntM (gM g) (zn S 6) - 1) from n_sub (b := 1) c1, n_add, show sA (mk G a0 ℓ t') (ℓ 0) (upd (gA (mk G a0 ℓ t') (ℓ 0)) (15 : Int32).toNatClampNeg (nI (zn S 15 + (cntM (gM g) (zn S 6) - 1)))) = _ from m_st (j := 15) h (by decide)]
    rintro G1 rfl
    rw [c40] at kk
    exact kk _ (MV.w (hv'.num (j := 15) (by decide) (by decide))) (ck.tr wA_k)
  · rw [ml_gJ, g1, a_1 o1 (by omega)]
    have dec := dec_up (L := zn S 6) (i := n) (by omega) (by omega)
    refine ⟨fun z2 => ⟨⟨rfl, rfl, n + 1, t', nI_1 n, by omega, by omega, ?_, rfl, ck, by rw [sK_n z2]; exact hv'⟩, dec⟩, fun z2 => ⟨m_T h, ℓ 0, m_R h, s_requestAt.mpr ?_⟩⟩
    · rw [cntM_s, if_neg z2]; rfl
    · have n40 : n < 40 := by omega
      rw [show (280 : Int32) + 12 * nI n + 2 = nI (280 + 12 * n + 2) from ix3 280 12 2 n, m_A h (by omega), show tA t' 0 (280 + 12 * n + 2) = nI (zrq S n 2) by
        rw [(hv'.2.2.2.2.1 n n40).1 2 (by decide) (by decide)]
        show nI (rqs (zrq S) (gM g) (mst cd) cd n n 2) = _
        rw [rqs_n (Nat.le_refl n)]]
      refine ⟨m_V1 h, m_in h (by omega), l_106 h hv' hw ho hg' (hb.v ck) hd hcd (by omega) z2 (fun t2 v2 k2 => ⟨⟨rfl, rfl, n + 1, t2, nI_1 n, by omega, by omega, ?_, rfl, ck.tr k2, v2⟩, dec⟩)⟩
      rw [cntM_s, if_pos z2, nI_1]
end MSET
