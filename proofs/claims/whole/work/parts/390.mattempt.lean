/-! ===== the reference: attempts ===== -/
/-- array, frame, written, taken may change -/
def kAt (t t' : Tt) : Prop := (∀ j, j ≠ 0 → j ≠ 9 → j ≠ 11 → j ≠ 12 → tA t' j = tA t j) ∧ (∀ f, f ≠ 362 → tS t' f = tS t f) ∧ tJ t' = tJ t
theorem kAt.rf {t : Tt} : kAt t t := ⟨fun _ _ _ _ _ => rfl, fun _ _ => rfl, rfl⟩
theorem kAt.tr {t t' t'' : Tt} (h : kAt t t') (h' : kAt t' t'') : kAt t t'' := ⟨fun j a b c d => (h'.1 j a b c d).trans (h.1 j a b c d), fun f hf => (h'.2.1 f hf).trans (h.2.1 f hf), h'.2.2.trans h.2.2⟩
theorem kGr.a {t t' : Tt} (h : kGr t t') : kAt t t' := ⟨fun j a b _ _ => h.1 j a b, h.2.1, h.2.2⟩
theorem kVr.a {t t' : Tt} (h : kVr t t') : kAt t t' := h.g.a
theorem kWr.a {t t' : Tt} (h : kWr t t') : kAt t t' := ⟨fun j _ b c _ => h.1 j b c, h.2.1, h.2.2⟩
theorem kAt.sm {t t' : Tt} (h : kAt t t') : smL t t' := ⟨h.1 1 (by decide) (by decide) (by decide) (by decide), h.1 16 (by decide) (by decide) (by decide) (by decide), h.1 17 (by decide) (by decide) (by decide) (by decide), fun f hf => h.2.1 f (by omega)⟩
theorem MG.a {t t' : Tt} {M q dv iw lo hi : Nat} (h : MG t M q dv iw lo hi) (k : kAt t t') : MG t' M q dv iw lo hi := by
  unfold MG
  rw [k.2.2, k.2.1 _ (by decide), k.2.1 _ (by decide), k.2.1 _ (by decide), k.2.1 _ (by decide), k.2.1 _ (by decide)]
  exact h
/-- the reply that was taken -/
def MTk (t : Tt) (r : Rp) : Prop := tA t 12 0 = nI r.1 ∧ tA t 12 1 = nI r.2.2.length ∧ tA t 12 2 = nI r.2.1 ∧ ∀ j, j < r.2.2.length → tA t 12 (3 + j) = nI (r.2.2.getD j 0)
section MATT
variable {X : Xt} {G : Gt} {m : Nat} {ℓ : Nat → Nat} {t : Tt} {S : St} {g : Gp}
theorem m_RT (h : ML G m ℓ) : gR (mk G m ℓ t) 364 m = some (ℓ 12) := h.2.1.2.2.2.2.1
theorem m_Tk (h : ML G m ℓ) : gT (mk G m ℓ t) (ℓ 12) = (2, 42) := h.2.2.1.2.2.2.2.1
theorem m_num (h : ML G m ℓ) (hv : MV (tA t 0) S) {j : Nat} (hj : j < 16) (h9 : j ≠ 9) : gA (mk G m ℓ t) (ℓ 0) (nI j).toNatClampNeg = nI (zn S j) := (m_A h (by omega)).trans (hv.1 j hj h9)
theorem sm_attempts {Pr : Int32 → Gt → Prop} (h : ML G m ℓ) (hv : MV (tA t 0) S) (hw : WF S) (ho : GO S g) (hp : wfF (gfp S g)) (hg : MGs t S g) (hL : (zL S).length ≤ 164) (ht : zn S 0 < 2 ^ 28) (h7 : zn S 7 < 2 ^ 28)
    (k0 : ∀ t', (atS S (gfp S g)).2 = none → MV (tA t' 0) (atS S (gfp S g)).1 → kAt t t' → Pr 0 (mk G m ℓ t'))
    (k1 : ∀ t' r, (atS S (gfp S g)).2 = some r → MV (tA t' 0) (atS S (gfp S g)).1 → MTk t' r → MWs t' S g → kAt t t' → Pr 1 (mk G m ℓ t')) : wX10_attempts X (mk G m ℓ t) m Pr := by
  have hlen := fbs_len hp
  have h6 : ∀ d, (zfl S d).length ≤ 6 := fun d => (hw.2.1 d).2.2.2.2.1
  have s2 : zn S 2 ≤ 1000 := hw.1.2.2.1
  have hT : zn S 0 ≤ atT S (gfp S g) := by unfold atT; omega
  have hT2 : atT S (gfp S g) < 2 ^ 28 + 100 := by unfold atT; omega
  obtain ⟨pw1, pw2⟩ := pl_wf hw hp (atT S (gfp S g)) hT
  refine ⟨m_T h, sm_frames h hv hw ho hg (fun t1 f1 mw1 c1 => ?_)⟩
  have hv1 : MV (tA t1 0) S := by rw [c1.1 0 (by decide) (by decide)]; exact hv
  refine ⟨m_T h, ℓ 0, m_R h, m_V1 h, m_in h (j := 10) (by decide), m_V1 h, m_in h (j := 10) (by decide), ?_⟩
  rw [show gA (mk G m ℓ t1) (ℓ 0) (10 : Int32).toNatClampNeg = nI (zn S 10) from m_num h hv1 (by decide) (by decide), nI_1, ml_gA0 h]
  intro G2 e2
  rw [ml_sA0 h] at e2
  subst e2
  have hv2 : MV (tA (uA t1 0 (upd (tA t1 0) (10 : Int32).toNatClampNeg (nI (zn S 10 + 1)))) 0) (u1 S 10 (zn S 10 + 1)) := by
    rw [tA_uA, if_pos rfl]; exact hv1.num (j := 10) (by decide) (by decide)
  refine ⟨m_T h, ℓ 0, m_R h, m_V1 h, m_in h (j := 0) (by decide), m_T h, m_V1 h, m_in h (j := 0) (by decide), ?_⟩
  rw [show gA (mk G m ℓ (uA t1 0 (upd (tA t1 0) (10 : Int32).toNatClampNeg (nI (zn S 10 + 1))))) (ℓ 0) (0 : Int32).toNatClampNeg = nI (zn S 0) from m_num h hv2 (by decide) (by decide), ml_gI, tS_uA, f1.1, show (4 : Int32) + nI (gfb S g).length = nI (4 + (gfb S g).length) from n_add (a := 4), n_add, show zn S 0 + (4 + (gfb S g).length) = atT S (gfp S g) by show _ = zn S 0 + 4 + (gfb S g).length; omega, ml_gA0 h]
  intro G3 e3
  rw [ml_sA0 h] at e3
  subst e3
  have hv3' := hv2.num (j := 0) (x := atT S (gfp S g)) (by decide) (by decide)
  generalize hT3 : uA (uA t1 0 (upd (tA t1 0) (10 : Int32).toNatClampNeg (nI (zn S 10 + 1)))) 0 (upd (tA (uA t1 0 (upd (tA t1 0) (10 : Int32).toNatClampNeg (nI (zn S 10 + 1)))) 0) (0 : Int32).toNatClampNeg (nI (atT S (gfp S g)))) = t3
  have hv3 : MV (tA t3 0) (u1 (u1 S 10 (zn S 10 + 1)) 0 (atT S (gfp S g))) := by
    rw [← hT3, tA_uA, if_pos rfl]; exact hv3'
  have c3 : kWr t1 t1 ∧ kVr t1 t3 := ⟨kWr.rf, by rw [← hT3]; exact kVr.u.tr kVr.u⟩
  have c03 : kAt t t3 := c1.a.tr c3.2.a
  clear hT3 hv3'
  have hw3 : WF (u1 (u1 S 10 (zn S 10 + 1)) 0 (atT S (gfp S g))) := by
    obtain ⟨x1, x2, x3, x4, x5⟩ := hw
    exact ⟨x1, x2, x3, fun q => ⟨(x4 q).1, fun e => ⟨((x4 q).2 e).1, Nat.le_trans ((x4 q).2 e).2 hT⟩⟩, fun r hr => (x5 r hr).up (Nat.le_refl _) hT⟩
  have mw3 : MWs t3 S g := fun hb j hj => by rw [c3.2.1 11 (by decide)]; exact mw1 hb j hj
  refine ⟨m_T h, ℓ 0, m_R h, m_V1 h, m_in h (j := 0) (by decide), m_T h, ?_⟩
  rw [show gA (mk G m ℓ t3) (ℓ 0) (0 : Int32).toNatClampNeg = nI (atT S (gfp S g)) from m_num h hv3 (by decide) (by decide)]
  refine sm_gets (S := u1 (u1 S 10 (zn S 10 + 1)) 0 (atT S (gfp S g))) (g := g) h hv3 hw3 ho (hg.a c03) mw3 (by show (zL S).length ≤ 165; omega) (by show atT S (gfp S g) < 2 ^ 29; omega) (fun t4 hv4 c4 => ?_)
  have eL1 : zL S ++ (if (hd2 (zfl S (gdv S g))).1 = 1 then [] else [prep S (gfp S g) (atT S (gfp S g))]) = zL S ++ (if (hd2 (zfl S (gdv S g))).1 = 1 then [] else [prep S (gfp S g) (atT S (gfp S g))]) := rfl
  have hv4' : MV (tA t4 0) (gtS S (gfp S g) (zn (u1 (u1 S 10 (zn S 10 + 1)) 0 (atT S (gfp S g)))) (zL S ++ (if (hd2 (zfl S (gdv S g))).1 = 1 then [] else [prep S (gfp S g) (atT S (gfp S g))]))) := hv4
  clear hv4 eL1
  have c04 : kAt t t4 := c03.tr c4.a
  have mw4 : MWs t4 S g := fun hb j hj => by rw [c4.1 11 (by decide) (by decide)]; exact mw3 hb j hj
  generalize hLL : zL S ++ (if (hd2 (zfl S (gdv S g))).1 = 1 then [] else [prep S (gfp S g) (atT S (gfp S g))]) = LL at hv4'
  have hLLlen : LL.length ≤ 165 := by
    rw [← hLL, List.length_append]
    split <;> simp <;> omega
  have hfil : LL.filter (fun r => decide (atT S (gfp S g) ≤ r.1)) = pline S (gfp S g) (atT S (gfp S g)) := by
    rw [← hLL, List.filter_append]
    show _ ++ _ = (zL S).filter _ ++ (if (hd2 (zfl S (gdv S g))).1 = 1 then [] else [prep S (gfp S g) (atT S (gfp S g))])
    congr 1
    split
    · rfl
    · rw [List.filter_cons_of_pos]
      · rfl
      · have : atT S (gfp S g) ≤ (prep S (gfp S g) (atT S (gfp S g))).1 := by
          show atT S (gfp S g) ≤ atT S (gfp S g) + zdl S (gdv S g) + _
          omega
        simpa using this
  have hLLwf : ∀ r ∈ LL, r.1 < 2 ^ 30 ∧ r.2.2.length ≤ 37 := fun r hr => by
    rw [← hLL] at hr
    rcases List.mem_append.mp hr with q | q
    · have := hw.2.2.2.2 r q
      have a1 := this.1
      exact ⟨by omega, this.2.2.2.1⟩
    · split at q
      · cases q
      · have hm : r ∈ pline S (gfp S g) (atT S (gfp S g)) := by
          unfold pline
          refine List.mem_append_right _ ?_
          show r ∈ (if (hd2 (zfl S (gdv S g))).1 = 1 then [] else [prep S (gfp S g) (atT S (gfp S g))])
          rw [if_neg (by assumption)]; exact q
        have := (pw1 r hm).1
        have a1 := this.1
        exact ⟨by omega, this.2.2.2.1⟩
  have h64 : ∀ d, (zfl (gtS S (gfp S g) (zn (u1 (u1 S 10 (zn S 10 + 1)) 0 (atT S (gfp S g)))) LL) d).length ≤ 6 := fun d => by
    show (va_up (zfl S) (gdv S g) (zfl S (gdv S g)).tail d).length ≤ 6
    by_cases e : d = gdv S g
    · rw [e, va_up_self, List.length_tail]; have := h6 (gdv S g); omega
    · rw [va_up_ne _ _ e]; exact h6 d
  have ml4 : MLn (tA t4 0) LL := hv4'.l
  refine ⟨m_T h, ℓ 0, m_R h, m_V1 h, m_in h (j := 9) (by decide), ?_⟩
  rw [show gA (mk G m ℓ t4) (ℓ 0) (9 : Int32).toNatClampNeg = nI LL.length from (m_A h (j := 9) (by decide)).trans ml4.1]
  generalize hTT : atT S (gfp S g) = TT at *
  -- numbers of the line's state
  have num4 : ∀ (T : Tt) (Lc : List Rp), (∀ j, j ≠ 9 → j < 1700 → tA T 0 j = tA t4 0 j) → MLn (tA T 0) Lc → MV (tA T 0) (gtS S (gfp S g) (va_up (va_up (zn S) 10 (zn S 10 + 1)) 0 TT) Lc) := fun T Lc e hl => hv4'.ln h64 e hl
  -- the replies that began too early go
  refine ⟨fun g' a0 x1 x2 => a0 = m ∧ x1 = nI TT ∧ ∃ k T, g' = mk G m ℓ T ∧ x2 = nI k - 1 ∧ k ≤ LL.length ∧ MLn (tA T 0) (dpL LL TT k) ∧ (∀ j, j ≠ 9 → j < 1700 → tA T 0 j = tA t4 0 j) ∧ kVr t4 T, fun _ _ _ x2 => (x2 + 1).toNatClampNeg, ⟨rfl, rfl, LL.length, t4, rfl, rfl, by omega, by rw [dpL_len]; exact ml4, fun _ _ _ => rfl, kVr.rf⟩, ?_⟩
  rintro g' a0 x1 x2 ⟨rfl, rfl, kq, T, rfl, rfl, hk, mlT, eT, cT⟩
  cases kq with
  | succ j =>
    have ej : nI (j + 1) - 1 = nI j := nI_pred j
    rw [ej]
    have dec : (nI j + -1 + 1).toNatClampNeg < (nI j + 1).toNatClampNeg := by
      rw [show nI j + -1 + 1 = nI j by rw [Int32.add_assoc]; exact Int32.add_zero _, nI_1, n_cl (by omega), n_cl (by omega)]; omega
    have em : nI j + -1 = nI j - 1 := (Int32.sub_eq_add_neg _ _).symm
    obtain ⟨d1, d2⟩ := dpL_j (L := LL) (t := TT) (j := j) (by omega)
    have hdl : (dpL LL TT (j + 1)).length ≤ 165 := by
      unfold dpL
      rw [List.length_append, List.length_take]
      have := List.length_filter_le (fun r : Rp => decide (TT ≤ r.1)) (LL.drop (j + 1))
      rw [List.length_drop] at this
      omega
    have r0 := (mlT.2 j d1).1
    rw [d2] at r0
    obtain ⟨b1, _⟩ := hLLwf _ (gRd (k := j) (L := LL) (by omega))
    refine ⟨fun z => absurd z (n_neg (by omega)), fun _ => ⟨m_T h, ℓ 0, m_R h, m_V1 h, ?_⟩⟩
    rw [show (1700 : Int32) + 42 * nI j = nI (1700 + 42 * j) from ix2 1700 42 j]
    refine ⟨m_in h (by omega), ?_⟩
    rw [m_A h (by omega), r0, n_le (by omega) (by omega)]
    refine ⟨fun z => ⟨⟨rfl, rfl, j, T, rfl, em, by omega, by rw [← dpL_y (by omega) z]; exact mlT, eT, cT⟩, dec⟩, fun z => ⟨m_T h, sm_goes h mlT (by omega) d1 (fun r hr => (hLLwf r (dpL_sub r hr)).2) (fun T2 ml2 e2 c2 => ⟨⟨rfl, rfl, j, T2, rfl, em, by omega, by rw [← dpL_n (by omega) z]; exact ml2, fun q h9 hq => (e2 q h9 hq).trans (eT q h9 hq), cT.tr c2⟩, dec⟩)⟩⟩
  | zero =>
    rw [dpL_0, hfil] at mlT
    refine ⟨fun _ => ⟨m_T h, ℓ 0, m_R h, m_V1 h, m_in h (j := 2) (by decide), m_T h, ?_⟩, fun z => absurd (by decide) z⟩
    generalize hPL : pline S (gfp S g) TT = PL at *
    have e2' : ∀ (T : Tt), (∀ j, j ≠ 9 → j < 1700 → tA T 0 j = tA t4 0 j) → gA (mk G a0 ℓ T) (ℓ 0) (2 : Int32).toNatClampNeg = nI (zn S 2) := fun T e => by
      rw [show gA (mk G a0 ℓ T) (ℓ 0) (2 : Int32).toNatClampNeg = tA T 0 2 from m_A h (j := 2) (by decide), e 2 (by decide) (by decide)]
      exact hv4'.1 2 (by decide) (by decide)
    rw [e2' T eT, n_add]
    have hB : ∀ r ∈ PL, TT ≤ r.1 ∧ r.1 < 2 ^ 30 := fun r hr => by
      obtain ⟨x1, x2⟩ := pw1 r hr
      have := x1.1
      exact ⟨x2, by omega⟩
    have hPLl : PL.length ≤ 165 := by omega
    have eK : atK S (gfp S g) = tkS (gfb S g) (TT + zn S 2) PL.length PL := by
      show tkS (fbs (gfp S g)) (atT S (gfp S g) + zn S 2) (pline S (gfp S g) (atT S (gfp S g))).length (pline S (gfp S g) (atT S (gfp S g))) = _
      rw [hTT, hPL]; rfl
    refine sm_earliest h mlT (by omega) hB (by omega) (by omega) ?_
    refine ⟨fun g' a0' x1 x2 => a0' = a0 ∧ x1 = nI TT ∧ ∃ T Lc mm, g' = mk G a0 ℓ T ∧ x2 = oI (erl Lc (TT + zn S 2)) ∧ MLn (tA T 0) Lc ∧ Lc.length ≤ mm ∧ Lc.length ≤ 165 ∧ (∀ r ∈ Lc, r ∈ PL) ∧ tkS (gfb S g) (TT + zn S 2) mm Lc = atK S (gfp S g) ∧ (∀ j, j ≠ 9 → j < 1700 → tA T 0 j = tA t4 0 j) ∧ (∀ j, j ≠ 0 → j ≠ 12 → tA T j = tA t4 j) ∧ (∀ f, tS T f = tS t4 f) ∧ tJ T = tJ t4, fun g' _ _ _ => (gA g' (ℓ 0) 9).toNatClampNeg, ⟨rfl, rfl, T, PL, PL.length, rfl, rfl, mlT, by omega, hPLl, fun _ hr => hr, eK.symm, eT, fun j h1 _ => cT.1 j h1, cT.2.1, cT.2.2⟩, ?_⟩
    clear mlT eT cT
    rintro g' a0' x1 x2 ⟨rfl, rfl, T, Lc, mm, rfl, rfl, mlT, hmm, hlc, hsub, htk, eT, eA, eS, eJ⟩
    have kAT : kAt t4 T := ⟨fun j a _ _ d => eA j a d, fun f _ => eS f, eJ⟩
    have hBc : ∀ r ∈ Lc, TT ≤ r.1 ∧ r.1 < 2 ^ 30 := fun r hr => hB r (hsub r hr)
    have h37 : ∀ r ∈ Lc, r.2.2.length ≤ 37 := fun r hr => (pw1 r (hsub r hr)).1.2.2.2.1
    have hvT := num4 T Lc eT mlT
    have h6T : ∀ d, (zfl (gtS S (gfp S g) (va_up (va_up (zn S) 10 (zn S 10 + 1)) 0 TT) Lc) d).length ≤ 6 := h64
    cases he : erl Lc (TT + zn S 2) with
    | none =>
      have hK : atK S (gfp S g) = (none, Lc) := by
        rw [← htk]
        cases mm with
        | zero => rfl
        | succ q => rw [tkS_s, he]
      have eAt := atS_n hK
      refine ⟨fun _ => ⟨m_T h, ℓ 0, m_R h, m_T h, ℓ 0, m_R h, m_V1 h, m_in h (j := 2) (by decide), m_V1 h, m_in h (j := 0) (by decide), ?_⟩, fun z => absurd (by decide) z⟩
      rw [e2' T eT, n_add, ml_gA0 h]
      intro G5 e5
      rw [ml_sA0 h] at e5
      subst e5
      have hv5 : MV (tA (uA T 0 (upd (tA T 0) (0 : Int32).toNatClampNeg (nI (TT + zn S 2)))) 0) (u1 (gtS S (gfp S g) (va_up (va_up (zn S) 10 (zn S 10 + 1)) 0 TT) Lc) 0 (TT + zn S 2)) := by
        rw [tA_uA, if_pos rfl]; exact hvT.num (j := 0) (by decide) (by decide)
      refine ⟨m_T h, ℓ 0, m_R h, m_V1 h, m_in h (j := 13) (by decide), m_V1 h, m_in h (j := 13) (by decide), ?_⟩
      rw [show gA (mk G a0' ℓ (uA T 0 (upd (tA T 0) (0 : Int32).toNatClampNeg (nI (TT + zn S 2))))) (ℓ 0) (13 : Int32).toNatClampNeg = nI (zn S 13) from m_num h hv5 (by decide) (by decide), nI_1, ml_gA0 h]
      intro G6 e6
      rw [ml_sA0 h] at e6
      subst e6
      have hv6 := hv5.num (j := 13) (x := zn S 13 + 1) (by decide) (by decide)
      refine ⟨m_T h, ℓ 0, m_R h, m_V1 h, m_in h (j := 8) (by decide), ?_⟩
      rw [ml_gA0 h]
      intro G7 e7
      rw [ml_sA0 h] at e7
      subst e7
      refine k0 _ (by rw [eAt]) ?_ (c04.tr (kAT.tr ((kVr.u.tr kVr.u).tr kVr.u).a))
      rw [eAt, tA_uA, if_pos rfl, tA_uA, if_pos rfl]
      have hv7 := hv6.num (j := 8) (x := 1) (by decide) (by decide)
      have es : u1 (u1 (u1 (gtS S (gfp S g) (va_up (va_up (zn S) 10 (zn S 10 + 1)) 0 TT) Lc) 0 (TT + zn S 2)) 13 (zn S 13 + 1)) 8 1 = gtS S (gfp S g) (nmN S (gfp S g)) Lc := by
        have en : va_up (va_up (va_up (va_up (va_up (zn S) 10 (zn S 10 + 1)) 0 TT) 0 (TT + zn S 2)) 13 (zn S 13 + 1)) 8 1 = nmN S (gfp S g) := by
          unfold nmN
          rw [hTT, va_tw]
        show gtS S (gfp S g) (va_up (va_up (va_up (va_up (va_up (zn S) 10 (zn S 10 + 1)) 0 TT) 0 (TT + zn S 2)) 13 (zn S 13 + 1)) 8 1) Lc = _
        rw [en]
      rw [es] at hv7
      exact hv7
    | some i =>
      have hi : i < Lc.length := erS_i _ _ he
      have mmpos : ∃ q, mm = q + 1 := ⟨mm - 1, by omega⟩
      obtain ⟨mq, rfl⟩ := mmpos
      rw [tkS_s, he] at htk
      dsimp only at htk
      obtain ⟨pr1, pr2⟩ := pw1 _ (hsub _ (gRd (k := i) (L := Lc) hi))
      have hfm : fmt (Lc.getD i dr).2.2 := pr1.2.2
      have mwT : MWs T S g := fun hb j hj => by rw [eA 11 (by decide) (by decide)]; exact mw4 hb j hj
      have mgT : MGs T S g := (hg.a c04).a kAT
      refine ⟨fun z => absurd z (n_neg (n := i) (by omega)), fun _ => ⟨m_T h, ?_⟩⟩
      -- what follows, with the answer b
      have cont : ∀ (b : Nat), b ≤ 1 → (b = 1 ↔ fitsB (Lc.getD i dr).2.2 (gfb S g) = true) → ∃ (I : Gt → Nat → Int32 → Int32 → Int32 → Int32 → Prop) (μ : Gt → Nat → Int32 → Int32 → Int32 → Int32 → Nat), I (mk G a0' ℓ T) a0' (nI TT) (nI i) (nI b) (0 : Int32) ∧ ∀ (G' : Gt) (a0 : Nat) (x1 : Int32) (x2 : Int32) (x3 : Int32) (x4 : Int32), I G' a0 x1 x2 x3 x4 → wX10_attempts_110 X Pr (fun g' a0_1 x1 x2 => (a0_1 = a0' ∧ x1 = nI TT ∧ ∃ T Lc mm, g' = mk G a0' ℓ T ∧ x2 = oI (erl Lc (TT + zn S 2)) ∧ MLn (tA T 0) Lc ∧ Lc.length ≤ mm ∧ Lc.length ≤ 165 ∧ (∀ r ∈ Lc, r ∈ PL) ∧ tkS (gfb S g) (TT + zn S 2) mm Lc = atK S (gfp S g) ∧ (∀ j, j ≠ 9 → j < 1700 → tA T 0 j = tA t4 0 j) ∧ (∀ j, j ≠ 0 → j ≠ 12 → tA T j = tA t4 j) ∧ (∀ f, tS T f = tS t4 f) ∧ tJ T = tJ t4) ∧ (gA g' (ℓ 0) 9).toNatClampNeg < (gA (mk G a0' ℓ T) (ℓ 0) 9).toNatClampNeg) (fun G'' a0' x1' x2' x3' x4' => I G'' a0' x1' x2' x3' x4' ∧ μ G'' a0' x1' x2' x3' x4' < μ G' a0 x1 x2 x3 x4) G' a0 x1 x2 x3 x4 := by
        intro b hb hbi
        refine ⟨fun g' a0 x1 x2 x3 x4 => a0 = a0' ∧ x1 = nI TT ∧ x2 = nI i ∧ x3 = nI b ∧ ∃ q T', g' = mk G a0' ℓ T' ∧ x4 = nI q ∧ q ≤ 42 ∧ (∀ j, j ≠ 12 → tA T' j = tA T j) ∧ (∀ f, tS T' f = tS T f) ∧ tJ T' = tJ T ∧ ∀ j, j < q → tA T' 12 j = tA T 0 (1700 + 42 * i + j), fun _ _ _ _ _ x4 => 42 - x4.toNatClampNeg, ⟨rfl, rfl, rfl, rfl, 0, T, rfl, rfl, by omega, fun _ _ => rfl, fun _ => rfl, rfl, fun j hj => absurd hj (by omega)⟩, ?_⟩
        rintro g' a0 x1 x2 x3 x4 ⟨rfl, rfl, rfl, rfl, q, T', rfl, rfl, hq, eA', eS', eJ', hcp⟩
        have mlT' : MLn (tA T' 0) Lc := by rw [eA' 0 (by decide)]; exact mlT
        refine ⟨fun z => ⟨m_T h, ?_⟩, fun z => ⟨m_T h, ℓ 12, m_RT h, m_T h, ℓ 0, m_R h, m_V1 h, ?_⟩⟩
        · have z' : 42 ≤ q := (n_le (a := 42) (by decide) (by omega)).mp z
          have eq42 : q = 42 := by omega
          subst eq42
          obtain ⟨r0, r1, r2, r3⟩ := mlT.2 i hi
          have mtk' : MTk T' (Lc.getD i dr) := ⟨(hcp 0 (by omega)).trans r0, (hcp 1 (by omega)).trans r1, (hcp 2 (by omega)).trans r2, fun j hj => by
            have := pr1.2.2.2.1
            rw [hcp (3 + j) (by omega), ← Nat.add_assoc]; exact r3 j hj⟩
          refine sm_goes h mlT' (by omega) hi h37 (fun T2 ml2 e2 c2 => ?_)
          have eT2 : ∀ j, j ≠ 9 → j < 1700 → tA T2 0 j = tA t4 0 j := fun j h9 hj => by rw [e2 j h9 hj, eA' 0 (by decide)]; exact eT j h9 hj
          have eA2 : ∀ j, j ≠ 0 → j ≠ 12 → tA T2 j = tA t4 j := fun j h0 h12 => by rw [c2.1 j h0, eA' j h12]; exact eA j h0 h12
          have hle : (Lc.eraseIdx i).length = Lc.length - 1 := List.length_eraseIdx_of_lt hi
          refine ⟨fun z3 => ⟨m_T h, ℓ 0, m_R h, m_V1 h, m_in h (j := 2) (by decide), m_T h, ?_⟩, fun z3 => ?_⟩
          · have eb : b = 0 := n_inj (b := 0) (by omega) (by decide) z3
            have nf : ¬ fitsB (Lc.getD i dr).2.2 (gfb S g) = true := fun e => by have := hbi.mpr e; omega
            rw [if_neg nf] at htk
            rw [e2' T2 eT2, n_add]
            refine sm_earliest h ml2 (by omega) (fun r hr => hBc r (List.mem_of_mem_eraseIdx hr)) (by omega) (by omega) ⟨⟨rfl, rfl, T2, Lc.eraseIdx i, mq, rfl, rfl, ml2, by omega, by omega, fun r hr => hsub r (List.mem_of_mem_eraseIdx hr), htk, eT2, eA2, fun f => by rw [c2.2.1, eS', eS], by rw [c2.2.2, eJ', eJ]⟩, ?_⟩
            rw [ml_gA0 h, ml_gA0 h, ml2.1, mlT.1, n_cl (by omega), n_cl (by omega), hle]
            omega
          · have eb : b = 1 := by
              rcases (show b = 0 ∨ b = 1 by omega) with e | e
              · exact absurd (by rw [e]; rfl) z3
              · exact e
            have yf := hbi.mp eb
            rw [if_pos yf] at htk
            have eAt := atS_y htk.symm
            generalize hrr : Lc.getD i dr = r at *
            have hv2' := num4 T2 (Lc.eraseIdx i) eT2 ml2
            have tk2 : tA T2 12 = tA T' 12 := c2.1 12 (by decide)
            have a12 : ∀ {T3 : Tt}, (gT (mk G a0 ℓ T3) (ℓ 12)).1 = 2 := by intro T3; rw [m_Tk h]
            have i12 : ∀ {T3 : Tt} (j : Nat), j < 42 → vp_in (nI j) (gT (mk G a0 ℓ T3) (ℓ 12)).2 := by intro T3 j hj; rw [m_Tk h]; exact n_in (show j < 42 from hj) (by decide)
            refine ⟨m_T h, ℓ 0, m_R h, m_T h, ℓ 12, m_RT h, a12, i12 0 (by decide), m_T h, ℓ 12, m_RT h, a12, i12 1 (by decide), m_V1 h, m_in h (j := 0) (by decide), ?_⟩
            rw [ml_gA12 h, show tA T2 12 (0 : Int32).toNatClampNeg = nI r.1 by rw [tk2]; exact mtk'.1, show tA T2 12 (1 : Int32).toNatClampNeg = nI r.2.2.length by rw [tk2]; exact mtk'.2.1, n_add, ml_gA0 h]
            intro G5 e5
            rw [ml_sA0 h] at e5
            subst e5
            have hv5 : MV (tA (uA T2 0 (upd (tA T2 0) (0 : Int32).toNatClampNeg (nI (r.1 + r.2.2.length)))) 0) (u1 (gtS S (gfp S g) (va_up (va_up (zn S) 10 (zn S 10 + 1)) 0 TT) (Lc.eraseIdx i)) 0 (r.1 + r.2.2.length)) := by
              rw [tA_uA, if_pos rfl]; exact hv2'.num (j := 0) (by decide) (by decide)
            refine ⟨m_T h, ℓ 0, m_R h, m_V1 h, m_in h (j := 11) (by decide), m_V1 h, m_in h (j := 11) (by decide), ?_⟩
            rw [show gA (mk G a0 ℓ (uA T2 0 (upd (tA T2 0) (0 : Int32).toNatClampNeg (nI (r.1 + r.2.2.length))))) (ℓ 0) (11 : Int32).toNatClampNeg = nI (zn S 11) from m_num h hv5 (by decide) (by decide), nI_1, ml_gA0 h]
            intro G6 e6
            rw [ml_sA0 h] at e6
            generalize hT6 : uA (uA T2 0 (upd (tA T2 0) (0 : Int32).toNatClampNeg (nI (r.1 + r.2.2.length)))) 0 (upd (tA (uA T2 0 (upd (tA T2 0) (0 : Int32).toNatClampNeg (nI (r.1 + r.2.2.length)))) 0) (11 : Int32).toNatClampNeg (nI (zn S 11 + 1))) = T6 at e6
            have hv6 : MV (tA T6 0) (u1 (u1 (gtS S (gfp S g) (va_up (va_up (zn S) 10 (zn S 10 + 1)) 0 TT) (Lc.eraseIdx i)) 0 (r.1 + r.2.2.length)) 11 (zn S 11 + 1)) := by
              rw [← hT6, tA_uA, if_pos rfl]; exact hv5.num (j := 11) (by decide) (by decide)
            have c6 : kVr T2 T6 := by rw [← hT6]; exact kVr.u.tr kVr.u
            clear hT6
            subst e6
            have tk6 : tA T6 12 = tA T' 12 := (c6.1 12 (by decide)).trans tk2
            refine ⟨m_T h, ℓ 0, m_R h, m_V1 h, m_in h (j := 12) (by decide), m_T h, ℓ 12, m_RT h, a12, i12 2 (by decide), m_T h, ℓ 0, m_R h, m_V1 h, m_in h (j := 7) (by decide), ?_⟩
            rw [ml_gA12 h, show tA T6 12 (2 : Int32).toNatClampNeg = nI r.2.1 by rw [tk6]; exact mtk'.2.2.1, show gA (mk G a0 ℓ T6) (ℓ 0) (7 : Int32).toNatClampNeg = nI (zn S 7) from m_num h hv6 (by decide) (by decide), show gA (mk G a0 ℓ T6) (ℓ 0) (12 : Int32).toNatClampNeg = nI (zn S 12) from m_num h hv6 (by decide) (by decide)]
            have hr7 : r.2.1 ≤ zn S 7 := pr1.2.1
            rw [nI_eq (by omega) (by omega)]
            -- the last two cells
            have fin : ∀ (x : Nat), x = zn S 12 + (if r.2.1 = zn S 7 then 0 else 1) → ∀ (G7 : Gt), G7 = sA (mk G a0 ℓ T6) (ℓ 0) (upd (gA (mk G a0 ℓ T6) (ℓ 0)) (12 : Int32).toNatClampNeg (nI x)) → gT G7 a0 = (1, 11) ∧ ∃ b92, gR G7 352 a0 = some b92 ∧ (gT G7 b92).1 = 2 ∧ vp_in 8 (gT G7 b92).2 ∧ ∀ G93, G93 = sA G7 b92 (upd (gA G7 b92) (8 : Int32).toNatClampNeg 0) → Pr 1 G93 := by
              intro x hx G7 e7
              rw [ml_gA0 h, ml_sA0 h] at e7
              subst e7
              refine ⟨m_T h, ℓ 0, m_R h, m_V1 h, m_in h (j := 8) (by decide), ?_⟩
              rw [ml_gA0 h]
              intro G8 e8
              rw [ml_sA0 h] at e8
              subst e8
              refine k1 _ r (by rw [eAt]) ?_ ?_ (fun hb j hj => by rw [((c6.tr kVr.u).tr kVr.u).1 11 (by decide), eA2 11 (by decide) (by decide)]; exact mw4 hb j hj) (c04.tr (kAt.tr ⟨fun j a _ _ d => eA2 j a d, fun f _ => by rw [c2.2.1, eS', eS], by rw [c2.2.2, eJ', eJ]⟩ ((c6.tr kVr.u).tr kVr.u).a))
              · rw [eAt, tA_uA, if_pos rfl, tA_uA, if_pos rfl]
                have hv8 := (hv6.num (j := 12) (x := x) (by decide) (by decide)).num (j := 8) (x := 0) (by decide) (by decide)
                have es : u1 (u1 (u1 (u1 (gtS S (gfp S g) (va_up (va_up (zn S) 10 (zn S 10 + 1)) 0 TT) (Lc.eraseIdx i)) 0 (r.1 + r.2.2.length)) 11 (zn S 11 + 1)) 12 x) 8 0 = gtS S (gfp S g) (nmY S (gfp S g) r) (Lc.eraseIdx i) := by
                  have en : va_up (va_up (va_up (va_up (va_up (va_up (zn S) 10 (zn S 10 + 1)) 0 TT) 0 (r.1 + r.2.2.length)) 11 (zn S 11 + 1)) 12 x) 8 0 = nmY S (gfp S g) r := by
                    unfold nmY
                    rw [va_tw, hx]
                  show gtS S (gfp S g) (va_up (va_up (va_up (va_up (va_up (va_up (zn S) 10 (zn S 10 + 1)) 0 TT) 0 (r.1 + r.2.2.length)) 11 (zn S 11 + 1)) 12 x) 8 0) (Lc.eraseIdx i) = _
                  rw [en]
                rw [es] at hv8
                exact hv8
              · unfold MTk
                rw [tA_uA, if_neg (by decide), tA_uA, if_neg (by decide), tk6]
                exact mtk'
            refine ⟨fun z4 => ⟨m_V1 h, m_in h (j := 12) (by decide), ?_⟩, fun z4 => ⟨m_V1 h, m_in h (j := 12) (by decide), ?_⟩⟩
            · rw [show nI (zn S 12) + 0 = nI (zn S 12 + 0) from n_add (b := 0)]
              exact fin _ (by rw [if_pos z4])
            · rw [nI_1]
              exact fin _ (by rw [if_neg z4])
        · have z' : ¬ 42 ≤ q := fun e => z ((n_le (a := 42) (by decide) (by omega)).mpr e)
          rw [show (1700 : Int32) + 42 * nI i + nI q = nI (1700 + 42 * i + q) from ix3 1700 42 q i]
          refine ⟨m_in h (by omega), by rw [m_Tk h], by rw [m_Tk h]; exact n_in (show q < 42 by omega) (by decide), ?_⟩
          rw [n_cl (by omega), m_A h (by omega), eA' 0 (by decide), ml_gA12 h]
          intro G5 e5
          rw [ml_sA12 h] at e5
          subst e5
          refine ⟨⟨rfl, rfl, rfl, rfl, q + 1, _, rfl, nI_1 q, by omega, fun j hj => by rw [tA_uA, if_neg hj]; exact eA' j hj, fun f => by rw [tS_uA]; exact eS' f, eJ', fun j hj => ?_⟩, dec_up (L := 42) (by omega) (by decide)⟩
          rw [tA_uA, if_pos rfl]
          by_cases e : j = q
          · subst e; rw [pk_us]
          · rw [pk_un e]; exact hcp j (by omega)
      refine sm_fits h mlT (by omega) hi hfm hw ho mgT mwT (fun yf => cont 1 (by decide) ⟨fun _ => yf, fun _ => rfl⟩) (fun nf => cont 0 (by decide) ⟨fun e => absurd e (by decide), fun e => absurd e nf⟩)
end MATT
