/-! ===== Core: copyFrom ===== -/
theorem KS.apart {sd : Nat → Nat} {s s2 c d : Nat} (h : KS sd s c) (h2 : KS sd s2 d) (hss : s + 2 < s2 ∨ s2 + 2 < s) : c + 25 < d ∨ d + 25 < c := by
  refine Classical.byContradiction (fun hn => ?_)
  have a1 := h (max c d) (by omega) (by omega)
  have a2 := h2 (max c d) (by omega) (by omega)
  rw [a1] at a2
  split at a2 <;> split at a2 <;> (try split at a2) <;> (try split at a2) <;> (try split at a2) <;> omega
section COPYK
variable {X : Xt} {sd : Nat → Nat} {s s2 : Nat} {G : Gt} {c d N zl zq N2 zl2 zq2 : Nat} {qs rs sp pool qs2 rs2 sp2 pool2 : List Nat} {S T : St} {fu : Bool}
/-- room for the trial's queue and line -/
def rmb (X : Xt) (G : Gt) (zl zq N : Nat) : Prop := gH G + 170 + (20 + 7 * N) + 6 ≤ xC X + zq + zl ∧ gU G + 14 * (190 + 7 * N) + 200 + 2 * N ≤ xS X + 14 * zq + 14 * zl ∧ xde X < gH G
theorem sp_Kcopy {Pr : Gt → Prop} {Px : String → Gt → Prop} (h : CP X sd s G c N zl zq qs rs sp [] pool T false) (h2 : CP X sd s2 G d N2 zl2 zq2 qs2 rs2 sp2 [] pool2 S fu) (hss : s + 2 < s2 ∨ s2 + 2 < s) (hle : qs.length ≤ qs2.length) (est : ∀ k, k < qs.length → zrq T k 0 = zrq S k 0 ∧ zrq T k 1 = zrq S k 1 ∧ zrq T k 2 = zrq S k 2 ∧ zrq T k 3 = zrq S k 3 ∧ zrq T k 4 = zrq S k 4) (hN : N ≤ 2000) (hl2 : (zL S).length < N) (h8' : zn S 8 ≤ 1) (hr : rmb X G zl zq N)
    (k : ∀ G' sd' zl' zq' qs' rs' sp' pool', (∀ a, a < gH G → sd' a = sd a) → (∀ a, gH G' ≤ a → sd' a = s) → CP X sd' s G' c N zl' zq' qs' rs' sp' [] pool' S false → CP X sd' s2 G' d N2 zl2 zq2 qs2 rs2 sp2 [] pool2 S fu → ch G G' (fun a => pAl sd s a) → cost G G' (zl + zq) (zl' + zq') → zl ≤ zl' → zq ≤ zq' → gI G' 74 c = 0 → Pr G') : wX1_copyFrom X G c d Pr Px := by
  obtain ⟨k1, k2, k3, k4, k5, k6, k7, k8⟩ := id h
  obtain ⟨m1, m2, m3, m4, m5, m6, m7, m8⟩ := id h2
  have hap := k2.apart m2 hss
  obtain ⟨t0, t1, ⟨r1, r2, r3, r4, r5, r6, r7⟩, ⟨t2, t3, t4, _⟩, _⟩ := id k1
  obtain ⟨u0, u1', ⟨v1, v2, v3, v4, v5, v6, v7⟩, ⟨u2, u3, u4, _⟩, _⟩ := id m1
  refine ⟨u1', d + 1, v1, t1, c + 1, r1, by rw [u2], by rw [t2], by decide, by decide, by decide, by rw [u2]; decide, by rw [t2]; decide, ?_⟩
  rintro G3 rfl
  refine ⟨u1', d + 2, v2, t1, c + 2, r2, by show (gT G (d + 2)).1 = 2; rw [u3], by show (gT G (c + 2)).1 = 2; rw [t3], by decide, by decide, by decide, by show _ ≤ (gT G (d + 2)).2; rw [u3]; decide, by show _ ≤ (gT G (c + 2)).2; rw [t3]; decide, ?_⟩
  intro G6 e6
  have c6 : cg G G6 (fun a => a = c + 1 ∨ a = c + 2) := by rw [e6]; exact (cg.sA (Or.inl rfl)).tr (cg.sA (Or.inr rfl))
  have s6 : ∀ i, i < 5 → gA G6 (c + 1) i = nI (zn S (1 + i)) := fun i hi => by
    rw [e6, gA_sA', if_neg (by omega), gA_sA', if_pos rfl, cpy0 (show i < (5 : Int32).toNatClampNeg from hi)]
    exact m3.2.2.2.1 i hi
  have n6 : ∀ i, i < 6 → gA G6 (c + 2) i = nI (zn S (10 + i)) := fun i hi => by
    rw [e6, gA_sA', if_pos rfl, cpy0 (show i < (6 : Int32).toNatClampNeg from hi), gA_sA', if_neg (by omega)]
    exact m3.2.2.2.2 i hi
  clear e6
  -- the devices
  refine ⟨fun g a0 a1 x2 => a0 = c ∧ a1 = d ∧ ∃ i, x2 = nI i ∧ i ≤ 3 ∧ cg G6 g (fun a => c + 4 ≤ a ∧ a ≤ c + 15) ∧ ∀ j, 1 ≤ j → j ≤ i → DC g (c + 4 * j) (zrg S j) (zro S j) (ztp S j) (zdl S j) (zfl S j), fun _ _ _ x2 => 3 - x2.toNatClampNeg, ⟨rfl, rfl, 0, rfl, by omega, cg.rf, fun j q1 q2 => absurd q1 (by omega)⟩, ?_⟩
  rintro g a0 a1 x2 ⟨rfl, rfl, i, rfl, hi, cgg, hdc⟩
  have cG : cg G g (fun a => a = a0 + 1 ∨ a = a0 + 2 ∨ (a0 + 4 ≤ a ∧ a ≤ a0 + 15)) := (c6.mono (fun a z => by rcases z with z | z <;> omega)).tr (cgg.mono (fun a z => by omega))
  have hkg := k1.ch cG.ch
  have hmg := m1.ch cG.ch
  have ed : ∀ a, a1 ≤ a → a ≤ a1 + 25 → eqAt G g a := fun a q1 q2 => cG.2.2.2.2.2 a (by omega)
  have md := m4.keep (G' := g) (fun a q1 q2 => ed a (by omega) (by omega))
  obtain ⟨t0, t1, ⟨r1, r2, r3, r4, r5, r6, r7⟩, ⟨t2, t3, t4, _⟩, _, _, _, hct, _, tu, tl⟩ := id hkg
  obtain ⟨u0, u1', ⟨v1, v2, v3, v4, v5, v6, v7⟩, ⟨u2, u3, u4, _⟩, _, _, _, hdt, _, _, _⟩ := id hmg
  refine ⟨fun z => ?_, fun z => ?_⟩
  · have z' : 3 ≤ i := (n_le (a := 3) (by decide) (by omega)).mp z
    have ei : i = 3 := by omega
    subst ei
    have md5 := m5.keep (ed (a1 + 16 + 1) (by omega) (by omega)) (ed (a1 + 16 + 2) (by omega) (by omega))
    refine ⟨t1, a0 + 16, r4, u1', a1 + 16, v4, hct.1, sp_Ccopy hct hdt md5 (by omega) (fun G1 cc1 cg1 => ?_)⟩
    have cG1 : cg G G1 (fun a => a = a0 + 1 ∨ a = a0 + 2 ∨ (a0 + 4 ≤ a ∧ a ≤ a0 + 18)) := (cG.mono (fun a z => by omega)).tr (cg1.mono (fun a z => by omega))
    have hk1 := k1.ch cG1.ch
    have hm1 := m1.ch cG1.ch
    have npq : ∀ {t a : Nat}, (t = s ∨ t = s + 1 ∨ t = s2 ∨ t = s2 + 1) → sd a = t → ¬ (a = a0 + 1 ∨ a = a0 + 2 ∨ (a0 + 4 ≤ a ∧ a ≤ a0 + 18)) := fun ht ha z => by
      rw [k2.r (by omega) (by omega) (by omega)] at ha
      omega
    have q1 := k6.keep cG1.ch (fun a ha _ => npq (Or.inr (Or.inl rfl)) ha)
    have q2 := m6.keep cG1.ch (fun a ha _ => npq (Or.inr (Or.inr (Or.inr rfl))) ha)
    have l1 := k8.keep cG1.ch (fun a ha => npq (Or.inl rfl) ha)
    have l2 := m8.keep cG1.ch (fun a ha => npq (Or.inr (Or.inr (Or.inl rfl))) ha)
    have hg1 : gH G1 = gH G := cG1.1
    have hgu1 : gU G1 = gU G := cG1.2.1
    -- colours while the queue is copied
    let sd1 : Nat → Nat := fun a => if a < gH G then sd a else s + 1
    have es1 : ∀ a, a < gH G1 → sd1 a = sd a := fun a ha => if_pos (by omega)
    have zl7 := ln_z l1
    obtain ⟨ra, rb, rx⟩ := hr
    obtain ⟨t0, t1, ⟨r1, r2, r3, r4, r5, r6, r7⟩, _, _, _, _, _, _, tu, tl⟩ := id hk1
    obtain ⟨u0, u1', ⟨v1, v2, v3, v4, v5, v6, v7⟩, _⟩ := id hm1
    refine ⟨t1, a0 + 19, r5, u1', a1 + 19, v5, tu, sp_Qcopy (sd := sd1) (q1.rc es1) (q2.rc es1) (by omega) hle est (fun a ha => if_neg (by omega)) ⟨by omega, by omega, by omega⟩ (fun G2 zq' qs' q3 hql c2 co2 rq2 => ?_)⟩
    have hz' := qu_z q3
    have hk2 := hk1.ch c2
    have hm2 := hm1.ch c2
    have np2 : ∀ a, a < gH G → sd a ≠ s + 1 → ¬ (sd1 a = s + 1) := fun a ha hb z => by
      have : sd1 a = sd a := if_pos ha
      rw [this] at z; exact hb z
    -- colours while the line is copied
    let sd2 : Nat → Nat := fun a => if a < gH G2 then sd1 a else s
    have hg2 : gH G1 ≤ gH G2 := c2.1
    have es2 : ∀ a, a < gH G2 → sd2 a = sd1 a := fun a ha => if_pos ha
    have es02 : ∀ a, a < gH G → sd2 a = sd a := fun a ha => (es2 a (by omega)).trans (es1 a (by omega))
    have l1' := ((l1.rc es1).keep c2 (fun a ha z => by rw [ha] at z; omega)).rc es2
    have l2' := ((l2.rc es1).keep c2 (fun a ha z => by rw [ha] at z; omega)).rc es2
    obtain ⟨oa, ob, oc⟩ := co2
    obtain ⟨t0, t1, ⟨r1, r2, r3, r4, r5, r6, r7⟩, _, _, _, _, _, _, tu, tl⟩ := id hk2
    obtain ⟨u0, u1', ⟨v1, v2, v3, v4, v5, v6, v7⟩, _⟩ := id hm2
    refine ⟨t1, a0 + 21, r6, u1', a1 + 21, v6, tl, sp_Lcopy (sd := sd2) l1' l2' (by omega) hN hl2 (fun a ha => if_neg (by omega)) ⟨by omega, by omega, by omega⟩ (fun G4 zl' rs' sp' pool' l4 c4 co4 rm4 => ?_)⟩
    obtain ⟨oa4, ob4, oc4⟩ := co4
    have hk4 := hk2.ch c4
    have hm4 := hm2.ch c4
    have hg4 : gH G2 ≤ gH G4 := c4.1
    have q4 := (q3.rc es2).keep c4 (fun a ha _ z => by rw [ha] at z; omega)
    obtain ⟨t0, t1, ⟨r1, r2, r3, r4, r5, r6, r7⟩, _, _, _, _, _, _, tu, tl⟩ := id hk4
    obtain ⟨u0, u1', _⟩ := id hm4
    have cl4 : ∀ a, a < gH G → sd a ≠ s → sd a ≠ s + 1 → eqAt G1 G4 a := fun a ha n1 n2 => (c2.2.2.1 a (by omega) (fun z => np2 a ha n2 z)).tr (c4.2.2.1 a (by omega) (fun z => by
      have : sd2 a = sd a := es02 a ha
      exact n1 (this.symm.trans z)))
    have eD : ∀ a, a1 ≤ a → a ≤ a1 + 18 → eqAt G G4 a := fun a z1 z2 => (cG1.2.2.2.2.2 a (by omega)).tr (cl4 a (by omega) (by rw [m2.r z1 (by omega) (by omega)]; omega) (by rw [m2.r z1 (by omega) (by omega)]; omega))
    have eC : ∀ a, a0 ≤ a → a ≤ a0 + 18 → eqAt G1 G4 a := fun a z1 z2 => cl4 a (by omega) (by rw [k2.r z1 (by omega) (by omega)]; omega) (by rw [k2.r z1 (by omega) (by omega)]; omega)
    have m71 : gI G4 71 a1 = nI (zn S 0) := ((eD a1 (by omega) (by omega)).2.1 _).trans m3.1
    have m72 : gI G4 72 a1 = nI (zn S 7) := ((eD a1 (by omega) (by omega)).2.1 _).trans m3.2.1
    have m73 : gI G4 73 a1 = nI (zn S 8) := ((eD a1 (by omega) (by omega)).2.1 _).trans m3.2.2.1
    have hne : a1 ≠ a0 := by omega
    refine ⟨u1', t1, ?_⟩
    rw [m71]
    rintro G5 rfl
    have w72 : gI (sI G4 71 a0 (nI (zn S 0))) 72 a1 = nI (zn S 7) := by rw [gI_sI, if_neg (fun z => hne z.2)]; exact m72
    refine ⟨u1', t1, ?_⟩
    rw [w72]
    rintro G7 rfl
    have w73 : gI (sI (sI G4 71 a0 (nI (zn S 0))) 72 a0 (nI (zn S 7))) 73 a1 = nI (zn S 8) := by rw [gI_sI, if_neg (fun z => hne z.2), gI_sI, if_neg (fun z => hne z.2)]; exact m73
    rw [w73]
    refine ⟨u1', t1, ?_, ?_⟩
    · rcases (show zn S 8 = 0 ∨ zn S 8 = 1 by omega) with e | e <;> rw [e]
      · exact Or.inl rfl
      · exact Or.inr rfl
    rintro G8 rfl
    refine ⟨t1, ?_⟩
    intro G9 e9
    have cg9 : cg G4 G9 (fun a => a = a0) := by rw [e9]; exact cg_i (cg_i (cg_i (cg_i cg.rf)))
    have i9 : gI G9 71 a0 = nI (zn S 0) ∧ gI G9 72 a0 = nI (zn S 7) ∧ gI G9 73 a0 = nI (zn S 8) ∧ gI G9 74 a0 = 0 := by
      rw [e9]
      refine ⟨?_, ?_, ?_, ?_⟩ <;> simp [gI_sI]
    clear e9
    have e9 : ∀ a, a ≠ a0 → eqAt G4 G9 a := fun a ha => cg9.2.2.2.2.2 a ha
    have kc0 : sd a0 = s + 2 := k2.r (by omega) (by omega) (by omega)
    have sd20 : sd2 a0 = s + 2 := (es02 a0 (by omega)).trans kc0
    have hg9 : gH G9 = gH G4 := cg9.1
    have hgu9 : gU G9 = gU G4 := cg9.2.1
    have e16 : ∀ a, a0 + 1 ≤ a → a ≤ a0 + 18 → eqAt G1 G9 a := fun a z1 z2 => (eC a (by omega) z2).tr (e9 a (by omega))
    have arr : ∀ a, a = a0 + 1 ∨ a = a0 + 2 → gA G9 a = gA G6 a := fun a ha => by
      rw [(e16 a (by omega) (by omega)).2.2.2.2.1, (cg1.2.2.2.2.2 a (by omega)).2.2.2.2.1, (cgg.2.2.2.2.2 a (by omega)).2.2.2.2.1]
    have hkf : KT G9 a0 := hk4.ch cg9.ch
    have dcf : ∀ j, 1 ≤ j → j ≤ 3 → ∀ x, a0 + 4 * j ≤ x → x ≤ a0 + 4 * j + 3 → eqAt g G9 x := fun j h1 h2 x h3 h4 => (cg1.2.2.2.2.2 x (by omega)).tr (e16 x (by omega) (by omega))
    have cpT : CP X sd2 s G9 a0 N zl' zq' qs' rs' sp' [] pool' S false := by
      refine ⟨hkf, fun a z1 z2 => by rw [es02 a (by omega)]; exact k2 a z1 z2, ⟨i9.1, i9.2.1, i9.2.2.1, fun i hi => by rw [arr _ (Or.inl rfl)]; exact s6 i hi, fun i hi => by rw [arr _ (Or.inr rfl)]; exact n6 i hi⟩, fun j h1 h2 => ?_, cc1.keep (e16 _ (by omega) (by omega)) (e16 _ (by omega) (by omega)), (q4.v0).keep cg9.ch (fun a ha _ z => by rw [z, sd20] at ha; omega), hql.trans m7, l4.keep cg9.ch (fun a ha z => by rw [z, sd20] at ha; omega)⟩
      exact (hdc j h1 h2).keep (dcf j h1 h2 _ (by omega) (by omega)) (dcf j h1 h2 _ (by omega) (by omega)) (dcf j h1 h2 _ (by omega) (by omega)) (dcf j h1 h2 _ (by omega) (by omega))
    have chA : ch G G9 (fun a => pAl sd s a) := by
      have x1 : ch G G1 (fun a => pAl sd s a) := cG1.ch.mono (fun a ha z => Or.inr (Or.inr (k2.r (by omega) (by omega) (by omega))))
      have x2 : ch G G2 (fun a => pAl sd s a) := x1.tq c2 (fun a ha z => by
        have : sd1 a = sd a := if_pos ha
        rw [this] at z; exact Or.inr (Or.inl z))
      have x4 : ch G G4 (fun a => pAl sd s a) := x2.tq c4 (fun a ha z => by
        rw [es02 a ha] at z; exact Or.inl z)
      exact x4.tq cg9.ch (fun a ha z => by rw [z]; exact Or.inr (Or.inr kc0))
    have cpS : CP X sd2 s2 G9 a1 N2 zl2 zq2 qs2 rs2 sp2 [] pool2 S fu := (h2.rc es02).keep (chA.mono (P' := fun a => a < gH G ∧ pAl sd s a) (fun a ha z => ⟨ha, z⟩)) (fun a z => Or.inr (by
      obtain ⟨ha, z⟩ := z
      rw [es02 a ha]
      rcases z with z | z | z <;> rw [z] <;> omega))
    exact k G9 sd2 zl' zq' qs' rs' sp' pool' es02 (fun a ha => if_neg (by omega)) cpT cpS chA ⟨by omega, by omega, by omega⟩ oa4 oa i9.2.2.2
  · have z' : i < 3 := Nat.lt_of_not_le (fun e => z ((n_le (a := 3) (by decide) (by omega)).mpr e))
    obtain ⟨x1, x2⟩ := hkg.d (d := i + 1) (by omega) (by omega)
    obtain ⟨y1, y2⟩ := hmg.d (d := i + 1) (by omega) (by omega)
    rw [Nat.add_sub_cancel] at x2 y2
    refine ⟨t1, a0 + 3, r3, by rw [t4], by rw [t4]; exact n_in (show i < 3 from z') (by decide), a0 + 4 * (i + 1), by rw [n_cl (by omega)]; exact x2, u1', a1 + 3, v3, by rw [u4], by rw [u4]; exact n_in (show i < 3 from z') (by decide), a1 + 4 * (i + 1), by rw [n_cl (by omega)]; exact y2, x1.1, ?_⟩
    refine sp_Dcopy x1 y1 (md (i + 1) (by omega) (by omega)) (by omega) (fun G2 dc2 cg2 => ⟨⟨rfl, rfl, i + 1, nI_1 i, by omega, cgg.tr (cg2.mono (fun a z => by omega)), fun j h1 h2 => ?_⟩, dec_up (L := 3) z' (by decide)⟩)
    by_cases e : j = i + 1
    · subst e; exact dc2
    · have o : ∀ x, a0 + 4 * j ≤ x → x ≤ a0 + 4 * j + 3 → eqAt g G2 x := fun x h3 h4 => cg2.2.2.2.2.2 x (by omega)
      exact (hdc j h1 (by omega)).keep (o _ (by omega) (by omega)) (o _ (by omega) (by omega)) (o _ (by omega) (by omega)) (o _ (by omega) (by omega))
end COPYK
