/-! ===== Core: tryFrame ===== -/
section TRYF
variable {X : Xt} {sd : Nat → Nat} {s : Nat} {G : Gt} {c N zl zq : Nat} {qs rs sp pool : List Nat} {S : St} {fu : Bool} {p : Fp}
theorem kpA.n3 {S S' : St} (h : kpA S S') {j : Nat} (h1 : j ≠ 0) (h2 : j < 8) : zn S' j = zn S j := h.2.2.2.2.2.2.2.2.2.1 j h1 h2
theorem lp_tries {Pr : Option Nat → Gt → Prop} {Px : String → Gt → Prop} (h : CP X sd s G c N zl zq qs rs sp [] pool S fu) (hf : FR G (c + 24) (c + 25) (fbs p)) (hw : WF S) (hp : wfF p) (hN : N ≤ 2000) (hL : (zL S).length + (zn S 3 + 1) ≤ N) (ht : zn S 0 + 1100 * (zn S 3 + 1) < 2 ^ 29) (h7 : zn S 7 < 2 ^ 29) (hsd : ∀ a, gH G ≤ a → sd a = s) (hr : rm X G zl N)
    (k0 : ∀ G' zl' rs' sp' pool', (trS p (zn S 3 + 1) S).2 = none → CP X sd s G' c N zl' zq qs rs' sp' [] pool' (trS p (zn S 3 + 1) S).1 fu → ch G G' (pTr sd s c) → cost G G' zl zl' → rm X G' zl' N → gI G' 74 c = (if zn (trS p (zn S 3 + 1) S).1 12 = zn S 12 then gI G 74 c else 1) → Pr none G')
    (k1 : ∀ G' zl' rs' sp' pool' y r, (trS p (zn S 3 + 1) S).2 = some r → CP X sd s G' c N zl' zq qs rs' sp' [y] pool' (trS p (zn S 3 + 1) S).1 fu → RP G' y r.1 r.2.1 r.2.2 → ch G G' (pTr sd s c) → cost G G' zl zl' → rm X G' zl' N → gI G' 74 c = (if zn (trS p (zn S 3 + 1) S).1 12 = zn S 12 then gI G 74 c else 1) → Pr (some y) G') :
    ∃ (I : Gt → Nat → Nat → Int32 → Prop) (μ : Gt → Nat → Nat → Int32 → Nat), I G c (c + 4 * fd p) (0 : Int32) ∧ ∀ (G : Gt) (a0 : Nat) (a1 : Nat) (x2 : Int32), I G a0 a1 x2 → wX1_tryFrame_34 X Pr Px (fun G' a0' a1' x2' => I G' a0' a1' x2' ∧ μ G' a0' a1' x2' < μ G a0 a1 x2) G a0 a1 x2 := by
  have s3 : zn S 3 ≤ 3 := hw.1.2.2.2.1
  refine ⟨fun g a0 a1 x2 => a0 = c ∧ a1 = c + 4 * fd p ∧ ∃ k T zc rc sc pc, x2 = nI k ∧ k ≤ zn S 3 + 1 ∧ CP X sd s g c N zc zq qs rc sc [] pc T fu ∧ FR g (c + 24) (c + 25) (fbs p) ∧ trS p (zn S 3 + 1 - k) T = trS p (zn S 3 + 1) S ∧ WF T ∧ (zL T).length + (zn S 3 + 1 - k) ≤ N ∧ zn T 0 + 1100 * (zn S 3 + 1 - k) < 2 ^ 29 ∧ kpA S T ∧ zn T 12 = zn S 12 ∧ ch G g (pTr sd s c) ∧ cost G g zl zc ∧ rm X g zc N ∧ gI g 74 c = gI G 74 c, fun _ _ _ x2 => zn S 3 + 1 - x2.toNatClampNeg, ⟨rfl, rfl, 0, S, zl, rs, sp, pool, rfl, by omega, h, hf, rfl, hw, hL, ht, kpA.rf, rfl, ch.rf, cost_rf, hr, rfl⟩, ?_⟩
  rintro g a0 a1 x2 ⟨rfl, rfl, k, T, zc, rc, sc, pc, rfl, hk, hc, hfr, htr, hwT, hLT, htT, hkp, h12, hch, hco, hrm, h74⟩
  have e3 : zn T 3 = zn S 3 := hkp.n3 (by decide) (by decide)
  have e7 : zn T 7 = zn S 7 := hkp.n3 (by decide) (by decide)
  by_cases e : k = zn S 3 + 1
  · subst e
    obtain ⟨h1, h2, h3, h4, h5, h6, h7', h8⟩ := id hc
    obtain ⟨t0, t1, ⟨r1, _⟩, ⟨t2, _⟩, _⟩ := id h1
    have es3 : gA g (a0 + 1) (2 : Int32).toNatClampNeg = nI (zn T 3) := h3.2.2.2.1 2 (by decide)
    rw [show zn S 3 + 1 - (zn S 3 + 1) = 0 by omega] at htr
    have htr' : trS p (zn S 3 + 1) S = (T, none) := htr.symm
    unfold wX1_tryFrame_34
    refine ⟨t1, a0 + 1, r1, by rw [t2], by rw [t2]; exact n_in (i := 2) (by decide) (by decide), ?_⟩
    rw [es3, e3]
    refine ⟨fun _ => ?_, fun z => absurd ((n_lt (by omega) (by omega)).mpr (by omega)) z⟩
    refine k0 g zc rc sc pc (by rw [htr']) (by rw [htr']; exact hc) hch hco hrm ?_
    rw [htr', if_pos h12]; exact h74
  · have hsdg : ∀ a, gH g ≤ a → sd a = s := fun a ha => hsd a (Nat.le_trans hch.1 ha)
    have hsp : zn S 3 + 1 - k = (zn S 3 + 1 - (k + 1)) + 1 := by omega
    rw [hsp] at htr
    obtain ⟨a1, a2, a3, a4, a5, a6, a7, a8, a9⟩ := at_ok hwT hp
    refine lp_att hc hfr hwT hp hN (by omega) (by omega) (by omega) hsdg hrm ?_ (fun G' zl' rs' sp' pool' o1 o2 o3 o4 o5 o6 o7 => ?_) (fun G' zl' rs' sp' pool' y r o1 o2 o3 o4 o5 o6 o7 => ?_)
    · rw [e3, n_lt (by omega) (by omega)]; omega
    · rw [trS_n o1] at htr
      have e12 := a7 o1
      refine ⟨⟨rfl, rfl, k + 1, (atS T p).1, zl', rs', sp', pool', nI_1 k, by omega, o2, o3, htr, a1, by omega, ?_, hkp.tr a2, by omega, hch.tr o4, cost_tr hco o5, o6, o7.trans h74⟩, dec_up (by omega) (by omega)⟩
      have : 1100 * (zn S 3 + 1 - k) = 1100 * (zn S 3 + 1 - (k + 1)) + 1100 := by omega
      omega
    · rw [trS_y o1] at htr
      refine k1 G' zl' rs' sp' pool' y r (by rw [← htr]; exact o1) (by rw [← htr]; exact o2) o3 (hch.tr o4) (cost_tr hco o5) o6 ?_
      rw [← htr, o7, h12, h74]
theorem u7_wf (hw : WF S) (x t : Nat) (hx : zn S 7 ≤ x) (ht : zn S 0 ≤ t) : WF (u1 (u1 S 7 x) 0 t) := by
  obtain ⟨w1, w2, w3, w4, w5⟩ := hw
  refine ⟨w1, w2, w3, fun q => ⟨(w4 q).1, fun e => ⟨((w4 q).2 e).1, Nat.le_trans ((w4 q).2 e).2 ht⟩⟩, fun r hr => (w5 r hr).up hx ht⟩
theorem sp_tryFrame {Pr : Option Nat → Gt → Prop} {Px : String → Gt → Prop} (h : CP X sd s G c N zl zq qs rs sp [] pool S fu) (hf : FR G (c + 24) (c + 25) (fbs p)) (hw : WF S) (hp : wfF p) (hN : N ≤ 2000) (hL : (zL S).length + 4 ≤ N) (ht : zn S 0 < 2 ^ 28) (h7 : zn S 7 < 2 ^ 28) (hsd : ∀ a, gH G ≤ a → sd a = s) (hr : rm X G zl N)
    (k0 : ∀ G' zl' rs' sp' pool', (triesS S p).2 = none → CP X sd s G' c N zl' zq qs rs' sp' [] pool' (triesS S p).1 fu → ch G G' (pTr sd s c) → cost G G' zl zl' → rm X G' zl' N → gI G' 74 c = (if zn (triesS S p).1 12 = zn S 12 then gI G 74 c else 1) → Pr none G')
    (k1 : ∀ G' zl' rs' sp' pool' y r, (triesS S p).2 = some r → CP X sd s G' c N zl' zq qs rs' sp' [y] pool' (triesS S p).1 fu → RP G' y r.1 r.2.1 r.2.2 → ch G G' (pTr sd s c) → cost G G' zl zl' → rm X G' zl' N → gI G' 74 c = (if zn (triesS S p).1 12 = zn S 12 then gI G 74 c else 1) → Pr (some y) G') : wX1_tryFrame X G c (c + 4 * fd p) Pr Px := by
  obtain ⟨h1, h2, h3, h4, h5, h6, h7', h8⟩ := id h
  obtain ⟨t0, t1, ⟨r1, r2, r3, r4, r5, r6, r7⟩, ⟨t2, t3, _⟩, _, _, _, _, ⟨f1, f2, f3⟩, u1', u2⟩ := id h1
  obtain ⟨s1, s2, s2', s3, s4, s5, s6, s8⟩ := hw.1
  -- behind the first two writes
  have go : ∀ (g : Gt) (d : Nat), d ≤ 1000 → d = (if zn S 8 = 1 then zn S 4 else 0) → cg G g (fun a => a = c) → KN g c (va_up (va_up (zn S) 7 (zn S 7 + 1)) 0 (zn S 0 + d)) → gI g 74 c = gI G 74 c → ∃ (I : Gt → Nat → Nat → Int32 → Prop) (μ : Gt → Nat → Nat → Int32 → Nat), I g c (c + 4 * fd p) (0 : Int32) ∧ ∀ (G : Gt) (a0 : Nat) (a1 : Nat) (x2 : Int32), I G a0 a1 x2 → wX1_tryFrame_34 X Pr Px (fun G' a0' a1' x2' => I G' a0' a1' x2' ∧ μ G' a0' a1' x2' < μ G a0 a1 x2) G a0 a1 x2 := by
    intro g d hd ed cgg kng e74
    have nC : ∀ a, c < a → a ≤ c + 25 → eqAt G g a := fun a q1 q2 => cgg.2.2.2.2.2 a (by omega)
    have cp : CP X sd s g c N zl zq qs rs sp [] pool (u1 (u1 S 7 (zn S 7 + 1)) 0 (zn S 0 + d)) fu := by
      refine ⟨h1.ch cgg.ch, h2, kng, h4.keep (fun a q1 q2 => nC a (by omega) (by omega)), (h5.keep (nC _ (by omega) (by omega)) (nC _ (by omega) (by omega))).tm (by show zn S 0 ≤ zn S 0 + d; omega), h6.keep cgg.ch (fun a ha _ z => ?_), h7', h8.keep cgg.ch (fun a ha z => ?_)⟩
      · rw [z, h2.r (by omega) (by omega) (by omega)] at ha; omega
      · rw [z, h2.r (by omega) (by omega) (by omega)] at ha; omega
    have eT : triesS S p = trS p (zn S 3 + 1) (u1 (u1 S 7 (zn S 7 + 1)) 0 (zn S 0 + d)) := by rw [ed]; rfl
    rw [eT] at k0 k1
    have cgp : ch G g (pTr sd s c) := cgg.ch.mono (fun a _ z => Or.inr (Or.inl z))
    have cst : cost G g zl zl := ⟨Nat.le_refl _, by rw [cgg.1]; exact Nat.le_refl _, by rw [cgg.2.1]; exact Nat.le_refl _⟩
    have hr' : rm X g zl N := hr.st cst (by rw [cgg.1]; exact Nat.le_refl _)
    refine lp_tries cp (hf.keep (nC _ (by omega) (by omega)) (nC _ (by omega) (by omega))) (u7_wf hw _ _ (by omega) (by omega)) hp hN ?_ ?_ ?_ (fun a ha => hsd a (by rw [cgg.1] at ha; exact ha)) hr' (fun G' zl' rs' sp' pool' o1 o2 o3 o4 o5 o6 => k0 G' zl' rs' sp' pool' o1 o2 (cgp.tr o3) (cost_tr cst o4) o5 ?_) (fun G' zl' rs' sp' pool' y r o1 o2 o3 o4 o5 o6 o7 => k1 G' zl' rs' sp' pool' y r o1 o2 o3 (cgp.tr o4) (cost_tr cst o5) o6 ?_)
    · show (zL S).length + (zn S 3 + 1) ≤ N; omega
    · show zn S 0 + d + 1100 * (zn S 3 + 1) < 2 ^ 29; omega
    · show zn S 7 + 1 < 2 ^ 29; omega
    · rw [o6, e74]; rfl
    · rw [o7, e74]; rfl
  unfold wX1_tryFrame
  rw [h3.2.2.1]
  refine ⟨t1, fun z => ⟨t1, t1, ?_⟩, fun z => ⟨t1, t1, c + 1, r1, by rw [t2], by rw [t2]; exact n_in (i := 3) (by decide) (by decide), t1, ?_⟩⟩
  · have e8 : zn S 8 = 0 := n_inj (b := 0) (by omega) (by decide) z
    rw [h3.2.1, nI_1]
    rintro G1 rfl
    refine go _ 0 (by omega) (by rw [if_neg (by omega)]) (cg.sI rfl) ((h3.s72 (zn S 7 + 1)).ext (fun j => ?_)) (by rw [gI_sI, if_neg (fun z => absurd z.1 (by decide))])
    by_cases e : j = 0
    · subst e; rfl
    · rw [va_up_ne _ _ e]
  · have e8 : zn S 8 = 1 := by
      rcases (show zn S 8 = 0 ∨ zn S 8 = 1 by omega) with e | e
      · exact absurd (by rw [e]; rfl) z
      · exact e
    rw [h3.1, show gA G (c + 1) (3 : Int32).toNatClampNeg = nI (zn S 4) from h3.2.2.2.1 3 (by decide), n_add]
    rintro G1 rfl
    have kn1 := h3.s71 (zn S 0 + zn S 4)
    have e72 : gI (sI G 71 c (nI (zn S 0 + zn S 4))) 72 c + 1 = nI (zn S 7 + 1) := by
      rw [show gI (sI G 71 c (nI (zn S 0 + zn S 4))) 72 c = nI (zn S 7) from kn1.2.1, nI_1]
    refine ⟨t1, t1, ?_⟩
    rw [e72]
    rintro G2 rfl
    refine go _ (zn S 4) s4 (by rw [if_pos e8]) (cg_i (cg_i cg.rf)) ((kn1.s72 (zn S 7 + 1)).ext (fun j => ?_)) ?_
    · by_cases e : j = 0
      · subst e; rfl
      · by_cases e1 : j = 7
        · subst e1; rfl
        · simp only [va_up, e, e1, if_false]
    · rw [gI_sI, if_neg (fun z => absurd z.1 (by decide)), gI_sI, if_neg (fun z => absurd z.1 (by decide))]
end TRYF
