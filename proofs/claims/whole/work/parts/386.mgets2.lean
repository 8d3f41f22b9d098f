/-! ===== the reference: replies, deeds, gets ===== -/
theorem va_id {α : Type} {f : Nat → α} {d : Nat} : va_up f d (f d) = f := by
  funext j
  by_cases e : j = d
  · subst e; rw [va_up_self]
  · rw [va_up_ne _ _ e]
theorem va_idx {α : Type} {f : Nat → α} {d : Nat} {x : α} (h : f d = x) : va_up f d x = f := by rw [← h]; exact va_id
theorem va_tw {α : Type} {f : Nat → α} {d : Nat} {x y : α} : va_up (va_up f d x) d y = va_up f d y := by
  funext j
  by_cases e : j = d
  · subst e; rw [va_up_self, va_up_self]
  · rw [va_up_ne _ _ e, va_up_ne _ _ e, va_up_ne _ _ e]
theorem rgw_0 {rg : Nat → Nat} {lo : Nat} {wr : Nat → Nat} : rgw rg lo 0 wr = rg := by
  funext r
  unfold rgw
  rw [if_neg (by omega)]
theorem rgw_s {rg : Nat → Nat} {lo k : Nat} {wr : Nat → Nat} : rgw rg lo (k + 1) wr = va_up (rgw rg lo k wr) (lo + k) (wr k) := by
  funext r
  by_cases e : r = lo + k
  · rw [e, va_up_self]
    unfold rgw
    rw [if_pos (by omega), show lo + k - lo = k by omega]
  · rw [va_up_ne _ _ e]
    unfold rgw
    by_cases h : lo ≤ r ∧ r < lo + k
    · rw [if_pos h, if_pos (by omega)]
    · rw [if_neg h, if_neg (by omega)]
theorem rbody_rg {rg rg' : Nat → Nat} {d lo w : Nat} {wr : Nat → Nat} {code : Nat} : rbody rg d lo w true wr code = rbody rg' d lo w true wr code := by
  unfold rbody
  split
  · rw [if_pos rfl, if_pos rfl]
  · rfl
/-- only the array changes -/
def kVr (t t' : Tt) : Prop := (∀ j, j ≠ 0 → tA t' j = tA t j) ∧ (∀ f, tS t' f = tS t f) ∧ tJ t' = tJ t
theorem kVr.rf {t : Tt} : kVr t t := ⟨fun _ _ => rfl, fun _ => rfl, rfl⟩
theorem kVr.tr {t t' t'' : Tt} (h : kVr t t') (h' : kVr t' t'') : kVr t t'' := ⟨fun j hj => (h'.1 j hj).trans (h.1 j hj), fun f => (h'.2.1 f).trans (h.2.1 f), h'.2.2.trans h.2.2⟩
theorem kVr.u {t : Tt} {g : Nat → Int32} : kVr t (uA t 0 g) := ⟨fun j hj => by rw [tA_uA, if_neg hj], fun _ => rfl, rfl⟩
theorem kVr.sm {t t' : Tt} (h : kVr t t') : smL t t' := ⟨h.1 1 (by decide), h.1 16 (by decide), h.1 17 (by decide), fun f _ => h.2.1 f⟩
theorem MG.v {t t' : Tt} {M q dv iw lo hi : Nat} (h : MG t M q dv iw lo hi) (k : kVr t t') : MG t' M q dv iw lo hi := by
  unfold MG
  rw [k.2.2, k.2.1, k.2.1, k.2.1, k.2.1, k.2.1]
  exact h
/-- array and frame change -/
def kGr (t t' : Tt) : Prop := (∀ j, j ≠ 0 → j ≠ 9 → tA t' j = tA t j) ∧ (∀ f, f ≠ 362 → tS t' f = tS t f) ∧ tJ t' = tJ t
theorem kGr.tr {t t' t'' : Tt} (h : kGr t t') (h' : kGr t' t'') : kGr t t'' := ⟨fun j hj hk => (h'.1 j hj hk).trans (h.1 j hj hk), fun f hf => (h'.2.1 f hf).trans (h.2.1 f hf), h'.2.2.trans h.2.2⟩
theorem kVr.g {t t' : Tt} (h : kVr t t') : kGr t t' := ⟨fun j hj _ => h.1 j hj, fun f _ => h.2.1 f, h.2.2⟩
theorem kF.g {t t' : Tt} (h : kF t t') : kGr t t' := ⟨fun j _ hj => h.1 j hj, h.2.1, h.2.2⟩
theorem kGr.sm {t t' : Tt} (h : kGr t t') : smL t t' := ⟨h.1 1 (by decide) (by decide), h.1 16 (by decide) (by decide), h.1 17 (by decide) (by decide), fun f hf => h.2.1 f (by omega)⟩
theorem MG.g {t t' : Tt} {M q dv iw lo hi : Nat} (h : MG t M q dv iw lo hi) (k : kGr t t') : MG t' M q dv iw lo hi := by
  unfold MG
  rw [k.2.2, k.2.1 _ (by decide), k.2.1 _ (by decide), k.2.1 _ (by decide), k.2.1 _ (by decide), k.2.1 _ (by decide)]
  exact h
section MGETS2
variable {X : Xt} {G : Gt} {m : Nat} {ℓ : Nat → Nat} {t : Tt} {S : St} {g : Gp}
theorem sm_does {Pr : Gt → Prop} (h : ML G m ℓ) (hv : MV (tA t 0) S) (hw : WF S) (ho : GO S g) (hg : MGs t S g) (hmw : MWs t S g) (h32 : glo g + gwd g ≤ 32) (k : ∀ t', MV (tA t' 0) (urg S (va_up (zrg S) (gdv S g) (rga (gw S g) (zrg S (gdv S g)) (glo g) (gwd g) (gwr S g)))) → kVr t t' → Pr (mk G m ℓ t')) : wX10_does X (mk G m ℓ t) m Pr := by
  obtain ⟨o1, o2, o3, o4, o5, o6, o7, o8, o9⟩ := id ho
  obtain ⟨q40, w0, w1, w2, w3, w4, w5, w6, w7, w8, _⟩ := wf_rq hw o9
  have hgh : ghi g = glo g + gwd g := by unfold gwd; omega
  have hd1 : 1 ≤ gdv S g := w1
  have hd3 : gdv S g ≤ 3 := w2
  have h6 : ∀ d, (zfl S d).length ≤ 6 := fun d => (hw.2.1 d).2.2.2.2.1
  refine ⟨m_T h, ?_⟩
  rw [ml_gI, hg.2.2.2.2.1]
  refine ⟨fun g' a0 x1 => a0 = m ∧ ∃ i T, g' = mk G m ℓ T ∧ x1 = nI (glo g + i) ∧ i ≤ gwd g ∧ (i = 0 ∨ gw S g = true) ∧ kVr t T ∧ MV (tA T 0) (urg S (va_up (zrg S) (gdv S g) (rgw (zrg S (gdv S g)) (glo g) i (gwr S g)))), fun _ _ x1 => ghi g - x1.toNatClampNeg, ⟨rfl, 0, t, rfl, rfl, by omega, Or.inl rfl, kVr.rf, by rw [rgw_0, va_id]; exact hv⟩, ?_⟩
  rintro g' a0 x1 ⟨rfl, i, T, rfl, rfl, hi, hi4, cT, hvT⟩
  obtain ⟨g1, g2, g3, g4, g5, g6⟩ := hg.v cT
  unfold wX10_does_5
  rw [ml_gI, ml_gI, ml_gI, g3, g4, g6, n_le (by omega) (by omega)]
  refine ⟨m_T h, fun z => ?_, fun z => ⟨m_T h, fun z2 => ?_, fun z2 => ⟨m_T h, ℓ 0, m_R h, m_T h, s_registerAt.mpr ?_⟩⟩⟩
  · have ei : i = gwd g := by omega
    subst ei
    refine k T ?_ cT
    unfold rga
    rcases hi4 with e | e
    · by_cases hb : gw S g = true
      · rw [if_pos hb]; exact hvT
      · rw [if_neg hb]
        rw [e, rgw_0] at hvT
        exact hvT
    · rw [if_pos e]; exact hvT
  · have e4 : zrq S (gq g) 4 = 0 := n_inj (b := 0) (by omega) (by decide) z2
    have hb : ¬ gw S g = true := fun e => by have := gw_iff.mp e; omega
    have ei : i = 0 := hi4.elim id (fun e => absurd e hb)
    refine k T ?_ cT
    unfold rga
    rw [if_neg hb]
    rw [ei, rgw_0] at hvT
    exact hvT
  · have e4 : zrq S (gq g) 4 = 1 := by
      rcases (show zrq S (gq g) 4 = 0 ∨ zrq S (gq g) 4 = 1 by omega) with e | e
      · exact absurd (by rw [e]; rfl) z2
      · exact e
    have hb : gw S g = true := gw_iff.mpr e4
    have hw8 : gwd g ≤ 8 := by rw [if_pos e4] at o4; exact o4
    have er : (20 : Int32) + (32 * (nI (gdv S g) - 1) + nI (glo g + i)) = nI (20 + plc (gdv S g) (glo g + i)) := ec_reg hd1 20
    have hp1 := plc_lt (dv := gdv S g) (r := glo g + i) ⟨hd1, hd3⟩ (by omega)
    rw [er, ml_gI, g5, n_sub (show glo g ≤ glo g + i by omega), show glo g + i - glo g = i by omega]
    refine ⟨m_T h, ℓ 11, m_RW h, m_T h, by rw [m_W h], by rw [m_W h]; exact n_in (show i < 16 by omega) (by decide), m_V1 h, m_in h (by omega), ?_⟩
    rw [n_cl (by omega), n_cl (by omega), ml_gA11 h, cT.1 11 (by decide), hmw hb i (by omega), ml_gA0 h]
    intro G2 e2
    rw [ml_sA0 h] at e2
    subst e2
    refine ⟨⟨rfl, i + 1, _, rfl, nI_1 _, by omega, Or.inr hb, cT.tr kVr.u, ?_⟩, dec_up (by omega) (by omega)⟩
    rw [tA_uA, if_pos rfl, rgw_s]
    have q := hvT.rg h6 (d := gdv S g) (r := glo g + i) (x := gwr S g i) ⟨hd1, hd3⟩ (by omega)
    have e : urg (urg S (va_up (zrg S) (gdv S g) (rgw (zrg S (gdv S g)) (glo g) i (gwr S g)))) (va_up (zrg (urg S (va_up (zrg S) (gdv S g) (rgw (zrg S (gdv S g)) (glo g) i (gwr S g))))) (gdv S g) (va_up (zrg (urg S (va_up (zrg S) (gdv S g) (rgw (zrg S (gdv S g)) (glo g) i (gwr S g)))) (gdv S g)) (glo g + i) (gwr S g i))) = urg S (va_up (zrg S) (gdv S g) (va_up (rgw (zrg S (gdv S g)) (glo g) i (gwr S g)) (glo g + i) (gwr S g i))) := by
      show urg S (va_up (va_up (zrg S) (gdv S g) (rgw (zrg S (gdv S g)) (glo g) i (gwr S g))) (gdv S g) (va_up (va_up (zrg S) (gdv S g) (rgw (zrg S (gdv S g)) (glo g) i (gwr S g)) (gdv S g)) (glo g + i) (gwr S g i))) = _
      rw [va_tw, va_up_self]
    rw [e] at q
    exact q
theorem sm_repliesWith {code : Nat} {Pr : Gt → Prop} (h : ML G m ℓ) (hv : MV (tA t 0) S) (hw : WF S) (ho : GO S g) (hg : MGs t S g) (hmw : MWs t S g) (hc : code = 0 → glo g + gwd g ≤ 32) (hc6 : code ≤ 6) (k : ∀ t', MF t' (seald (rbody (zrg S (gdv S g)) (gdv S g) (glo g) (gwd g) (gw S g) (gwr S g) code)) → kF t t' → Pr (mk G m ℓ t')) : wX10_repliesWith X (mk G m ℓ t) m (nI code) Pr := by
  obtain ⟨o1, o2, o3, o4, o5, o6, o7, o8, o9⟩ := id ho
  obtain ⟨q40, w0, w1, w2, w3, w4, w5, w6, w7, w8, _⟩ := wf_rq hw o9
  have hgh : ghi g = glo g + gwd g := by unfold gwd; omega
  have hd1 : 1 ≤ gdv S g := w1
  have hd3 : gdv S g ≤ 3 := w2
  have hw16 : gwd g ≤ 16 := by unfold gwd; split at o4 <;> omega
  have hwr : ∀ j, gwr S g j < 65536 := fun j => wvk_lt hw.2.2.1.1 _ (by omega)
  have mg : ∀ {t' : Tt}, kF t t' → MGs t' S g := fun c => hg.w c.w
  have fv := fnc_v (gw S g) (gwd g)
  have fn : ∀ {t' : Tt} {P : Int32 → Gt → Prop}, kF t t' → P (nI (fnc (gw S g) (gwd g))) (mk G m ℓ t') → wX10_function X (mk G m ℓ t') m P := fun c p => sm_function h (mg c) w6 (by omega) (by omega) p
  refine ⟨m_T h, ?_⟩
  intro G1 e1
  rw [ml_sI] at e1
  subst e1
  have c0 : kF t (uS t 362 0) := ⟨fun _ _ => rfl, fun f hf => by rw [tS_uS, if_neg hf], rfl⟩
  have f0 : MF (uS t 362 0) [] := ⟨by rw [tS_uS, if_pos rfl]; rfl, by simp, fun k hk => by simp at hk, fun b hb => by simp at hb⟩
  refine ⟨m_T h, m_T h, ?_⟩
  rw [ml_gI, (mg c0).2.2.1]
  refine sm_puts h f0 (by simp) (by omega) (fun t1 f1 c1 => ⟨fun z => ⟨m_T h, fn (c0.tr c1) ⟨m_T h, sm_puts h f1 (by simp) (by omega) (fun t2 f2 c2 => ⟨m_T h, ?_⟩)⟩⟩, fun z => ⟨m_T h, fn (c0.tr c1) ⟨m_T h, ?_⟩⟩⟩)
  · have ec : code = 0 := by have := (n_le (b := 0) (by omega) (by decide)).mp z; omega
    subst ec
    have h32 := hc rfl
    have c02 := (c0.tr c1).tr c2
    rw [ml_gI, (mg c02).2.2.2.1]
    refine ⟨fun z2 => ⟨m_T h, m_T h, ?_⟩, fun z2 => ⟨m_T h, m_T h, m_T h, ?_⟩⟩
    · -- writes
      have e4 : zrq S (gq g) 4 = 1 := by
        rcases (show zrq S (gq g) 4 = 0 ∨ zrq S (gq g) 4 = 1 by omega) with e | e
        · exact absurd (by rw [e]; rfl) z2
        · exact e
      have hb : gw S g = true := gw_iff.mpr e4
      have hrb : rbody (zrg S (gdv S g)) (gdv S g) (glo g) (gwd g) (gw S g) (gwr S g) 0 = [gdv S g, fnc (gw S g) (gwd g), glo g / 256, glo g % 256] ++ (if gwd g = 1 then [gwr S g 0 / 256, gwr S g 0 % 256] else [gwd g / 256, gwd g % 256]) := by
        unfold rbody
        rw [if_pos rfl, if_pos hb]
      rw [hrb] at k
      rw [ml_gI, (mg c02).2.2.2.2.1]
      refine sm_putsWord h f2 (by simp) (by omega) (fun t3 f3 c3 => ⟨m_T h, ?_⟩)
      have c03 := c02.tr c3
      refine fn c03 ⟨fun z3 => ⟨m_T h, m_T h, m_T h, ?_⟩, fun z3 => ⟨m_T h, ℓ 11, m_RW h, by rw [m_W h], by rw [m_W h]; exact n_in (i := 0) (by decide) (by decide), m_T h, ?_⟩⟩
      · have n1 : gwd g ≠ 1 := fun e => z3 (by unfold fnc; rw [if_pos hb, if_pos e]; rfl)
        rw [if_neg n1] at k
        rw [ml_gI, ml_gI, (mg c03).2.2.2.2.1, (mg c03).2.2.2.2.2, n_sub (by omega)]
        refine sm_putsWord h f3 (by simp) (by show gwd g < 65536; omega) (fun t4 f4 c4 => ⟨m_T h, sm_seals h f4 (by simp) (fun t5 f5 c5 => k t5 ?_ ((c03.tr c4).tr c5))⟩)
        simpa [gwd] using f5
      · have e6 : fnc (gw S g) (gwd g) = 6 := n_inj (b := 6) (by omega) (by decide) z3
        have e1 : gwd g = 1 := by
          unfold fnc at e6
          rw [if_pos hb] at e6
          by_cases e : gwd g = 1
          · exact e
          · rw [if_neg e] at e6; exact absurd e6 (by decide)
        rw [if_pos e1] at k
        rw [ml_gA11 h, show (0 : Int32).toNatClampNeg = 0 from rfl, c03.1 11 (by decide), hmw hb 0 (by omega)]
        refine sm_putsWord h f3 (by simp) (hwr 0) (fun t4 f4 c4 => ⟨m_T h, sm_seals h f4 (by simp) (fun t5 f5 c5 => k t5 ?_ ((c03.tr c4).tr c5))⟩)
        simpa using f5
    · -- reads
      have e4 : zrq S (gq g) 4 = 0 := n_inj (b := 0) (by omega) (by decide) z2
      have hb : gw S g = false := by
        cases hb : gw S g with
        | false => rfl
        | true => have := gw_iff.mp hb; omega
      have ef : fnc (gw S g) (gwd g) = 3 := by unfold fnc; rw [hb]; rfl
      have hrb : rbody (zrg S (gdv S g)) (gdv S g) (glo g) (gwd g) (gw S g) (gwr S g) 0 = [gdv S g, 3, 2 * gwd g] ++ wrds (fun k => zrg S (gdv S g) (glo g + k)) (gwd g) := by
        unfold rbody
        rw [if_pos rfl, hb]; rfl
      rw [hrb] at k
      rw [ef] at f2
      rw [ml_gI, ml_gI, (mg c02).2.2.2.2.1, (mg c02).2.2.2.2.2, n_sub (by omega), show (2 : Int32) * nI (ghi g - glo g) = nI (2 * (ghi g - glo g)) from pk_mul 2 _]
      refine sm_puts h f2 (by simp) (by show 2 * gwd g < 256; omega) (fun t3 f3 c3 => ⟨m_T h, ?_⟩)
      have c03 := c02.tr c3
      rw [ml_gI, (mg c03).2.2.2.2.1]
      refine ⟨fun g' a0 x1 => a0 = m ∧ ∃ i T, g' = mk G m ℓ T ∧ x1 = nI (glo g + i) ∧ i ≤ gwd g ∧ kF t T ∧ MF T ([gdv S g, 3, 2 * gwd g] ++ wrds (fun k => zrg S (gdv S g) (glo g + k)) i), fun _ _ x1 => ghi g - x1.toNatClampNeg, ⟨rfl, 0, t3, rfl, rfl, by omega, c03, by simpa [wrds, gwd] using f3⟩, ?_⟩
      rintro g' a0 x1 ⟨rfl, i, T, rfl, rfl, hi, cT, fT⟩
      have hvT : MV (tA T 0) S := by rw [cT.1 0 (by decide)]; exact hv
      unfold wX10_repliesWith_74
      rw [ml_gI, ml_gI, (mg cT).2.2.2.2.2, (mg cT).2.2.1, n_le (by omega) (by omega)]
      refine ⟨m_T h, fun z => ⟨m_T h, ?_⟩, fun z => ⟨m_T h, ℓ 0, m_R h, m_T h, s_registerAt.mpr ?_⟩⟩
      · have ei : i = gwd g := by omega
        subst ei
        exact sm_seals h fT (by simp [wrds_len]; omega) (fun t6 f6 c6 => k t6 f6 (cT.tr c6))
      · have er : (20 : Int32) + (32 * (nI (gdv S g) - 1) + nI (glo g + i)) = nI (20 + plc (gdv S g) (glo g + i)) := ec_reg hd1 20
        have hp1 := plc_lt (dv := gdv S g) (r := glo g + i) ⟨hd1, hd3⟩ (by omega)
        obtain ⟨x1, _⟩ := hvT.2.2.1 (gdv S g) (glo g + i) hd1 hd3 (by omega)
        rw [er]
        refine ⟨m_V1 h, m_in h (by omega), m_T h, ?_⟩
        rw [m_A h (by omega), x1]
        refine sm_putsWord h fT (by simp [wrds_len]; omega) ((hw.2.1 (gdv S g)).1 _) (fun t6 f6 c6 => ⟨⟨rfl, i + 1, t6, rfl, nI_1 _, by omega, cT.tr c6, ?_⟩, dec_up (by omega) (by omega)⟩)
        rw [List.append_assoc] at f6
        exact f6
  · have ec : code ≠ 0 := fun e => z (by rw [e]; decide)
    have hrb : rbody (zrg S (gdv S g)) (gdv S g) (glo g) (gwd g) (gw S g) (gwr S g) code = [gdv S g, fnc (gw S g) (gwd g) + 128, code] := by
      unfold rbody
      rw [if_neg ec]
    rw [hrb] at k
    rw [show nI (fnc (gw S g) (gwd g)) + 128 = nI (fnc (gw S g) (gwd g) + 128) from n_add (b := 128)]
    refine sm_puts h f1 (by simp) (by omega) (fun t2 f2 c2 => ⟨m_T h, sm_puts h f2 (by simp) (by omega) (fun t3 f3 c3 => ⟨m_T h, sm_seals h f3 (by simp) (fun t4 f4 c4 => k t4 ?_ ((((c0.tr c1).tr c2).tr c3).tr c4))⟩)⟩)
    simpa using f4
end MGETS2
