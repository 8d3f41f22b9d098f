/-! ===== Core: the attempts ===== -/
section TRIES
variable {X : Xt} {sd : Nat → Nat} {s : Nat} {G : Gt} {c N zl zq : Nat} {qs rs sp pool : List Nat} {S : St} {fu : Bool} {p : Fp}
/-- what attempts may change: the line, the core's numbers, the devices -/
def pTr (sd : Nat → Nat) (s c a : Nat) : Prop := sd a = s ∨ a = c ∨ a = c + 2 ∨ (c + 4 ≤ a ∧ a ≤ c + 15)
theorem pTr_n {a : Nat} (hs : KS sd s c) (h : a = c + 1 ∨ a = c + 16 ∨ a = c + 17 ∨ a = c + 18 ∨ a = c + 24 ∨ a = c + 25) : ¬ pTr sd s c a := by
  intro z
  rcases z with z | z | z | z
  · rw [hs.r (by omega) (by omega) (by omega)] at z; omega
  · omega
  · omega
  · omega
theorem apart4 {y d : Nat} {t u : Nat} (h : t ≠ u) (a : sd y = t ∧ sd (y + 1) = t ∧ sd (y + 2) = t) (b : ∀ x, d ≤ x → x ≤ d + 3 → sd x = u) : d + 3 < y ∨ y + 2 < d := by
  have e : ∀ x, d ≤ x → x ≤ d + 3 → x ≠ y ∧ x ≠ y + 1 ∧ x ≠ y + 2 := fun x h1 h2 => by
    have := b x h1 h2
    refine ⟨fun e => h ?_, fun e => h ?_, fun e => h ?_⟩
    · rw [← a.1, ← this, e]
    · rw [← a.2.1, ← this, e]
    · rw [← a.2.2, ← this, e]
  have e0 := e d (by omega) (by omega)
  have e1 := e (d + 1) (by omega) (by omega)
  have e2 := e (d + 2) (by omega) (by omega)
  have e3 := e (d + 3) (by omega) (by omega)
  omega
theorem lp_att {x2 : Int32} {Pr : Option Nat → Gt → Prop} {Px : String → Gt → Prop} {k34 : Gt → Nat → Nat → Int32 → Prop} (h : CP X sd s G c N zl zq qs rs sp [] pool S fu) (hf : FR G (c + 24) (c + 25) (fbs p)) (hw : WF S) (hp : wfF p) (hN : N ≤ 2000) (hL : (zL S).length < N) (ht : zn S 0 < 2 ^ 29) (h7 : zn S 7 < 2 ^ 29) (hsd : ∀ a, gH G ≤ a → sd a = s) (hr : rm X G zl N) (hx : ¬ nI (zn S 3) < x2)
    (k0 : ∀ G' zl' rs' sp' pool', (atS S p).2 = none → CP X sd s G' c N zl' zq qs rs' sp' [] pool' (atS S p).1 fu → FR G' (c + 24) (c + 25) (fbs p) → ch G G' (pTr sd s c) → cost G G' zl zl' → rm X G' zl' N → gI G' 74 c = gI G 74 c → k34 G' c (c + 4 * fd p) (x2 + 1))
    (k1 : ∀ G' zl' rs' sp' pool' y r, (atS S p).2 = some r → CP X sd s G' c N zl' zq qs rs' sp' [y] pool' (atS S p).1 fu → RP G' y r.1 r.2.1 r.2.2 → ch G G' (pTr sd s c) → cost G G' zl zl' → rm X G' zl' N → gI G' 74 c = (if zn (atS S p).1 12 = zn S 12 then gI G 74 c else 1) → Pr (some y) G') : wX1_tryFrame_34 X Pr Px k34 G c (c + 4 * fd p) x2 := by
  obtain ⟨h1, h2, h3, h4, h5, h6, h7', h8⟩ := id h
  obtain ⟨t0, t1, ⟨r1, r2, r3, r4, r5, r6, r7⟩, ⟨t2, t3, _⟩, _, _, _, _, ⟨f1, f2, f3⟩, u1, u2⟩ := id h1
  have hlen := fbs_len hp
  have hT : zn S 0 ≤ atT S p := by unfold atT; omega
  have hT2 : atT S p < 2 ^ 29 + 100 := by unfold atT; omega
  have hwL := hw.2.2.2.2
  obtain ⟨pw1, pw2⟩ := pl_wf hw hp (atT S p) hT
  have s2 : zn S 2 ≤ 1000 := hw.1.2.2.1
  have es3 : gA G (c + 1) (2 : Int32).toNatClampNeg = nI (zn S 3) := h3.2.2.2.1 2 (by decide)
  unfold wX1_tryFrame_34
  refine ⟨t1, c + 1, r1, by rw [t2], by rw [t2]; exact n_in (i := 2) (by decide) (by decide), ?_⟩
  rw [es3]
  refine ⟨fun z => absurd z hx, fun _ => ⟨t1, t1, c + 24, r7, f1, t1, ?_⟩⟩
  rw [h3.1, hf.2.2.2.1, show (4 : Int32) + nI (fbs p).length = nI (4 + (fbs p).length) from n_add (a := 4), n_add, show zn S 0 + (4 + (fbs p).length) = atT S p by unfold atT; omega]
  rintro G1 rfl
  have kn1 := h3.s71 (atT S p)
  refine ⟨t1, c + 2, r2, by show (gT G (c + 2)).1 = 2; rw [t3], by show vp_in 0 (gT G (c + 2)).2; rw [t3]; exact n_in (i := 0) (by decide) (by decide), by show (gT G (c + 2)).1 = 2; rw [t3], by show vp_in 0 (gT G (c + 2)).2; rw [t3]; exact n_in (i := 0) (by decide) (by decide), ?_⟩
  have e1 : gA (sI G 71 c (nI (atT S p))) (c + 2) (0 : Int32).toNatClampNeg + 1 = nI (zn S 10 + 1) := by
    rw [show gA (sI G 71 c (nI (atT S p))) (c + 2) (0 : Int32).toNatClampNeg = nI (zn S 10) from kn1.2.2.2.2 0 (by decide), nI_1]
  rw [e1]
  rintro G2 rfl
  have kn2 : KN (sA (sI G 71 c (nI (atT S p))) (c + 2) (upd (gA (sI G 71 c (nI (atT S p))) (c + 2)) (0 : Int32).toNatClampNeg (nI (zn S 10 + 1)))) c (va_up (va_up (zn S) 0 (atT S p)) 10 (zn S 10 + 1)) := kn1.cnt 0 (zn S 10 + 1)
  have cg2 : ch G (sA (sI G 71 c (nI (atT S p))) (c + 2) (upd (gA (sI G 71 c (nI (atT S p))) (c + 2)) (0 : Int32).toNatClampNeg (nI (zn S 10 + 1)))) (fun a => a = c ∨ a = c + 2) := ((cg.sI (Or.inl rfl)).tr (cg.sA (Or.inr rfl))).ch
  have nP : ∀ a, sd a = s → ¬ (a = c ∨ a = c + 2) := fun a ha hh => by
    rcases hh with e | e
    · rw [e, h2.r (by omega) (by omega) (by omega)] at ha; omega
    · rw [e, h2.r (by omega) (by omega) (by omega)] at ha; omega
  have l2 := h8.keep cg2 nP
  have hk2 := h1.ch cg2
  have e71 : gI (sA (sI G 71 c (nI (atT S p))) (c + 2) (upd (gA (sI G 71 c (nI (atT S p))) (c + 2)) (0 : Int32).toNatClampNeg (nI (zn S 10 + 1)))) 71 c = nI (atT S p) := kn2.1
  have ch2 : ch G (sA (sI G 71 c (nI (atT S p))) (c + 2) (upd (gA (sI G 71 c (nI (atT S p))) (c + 2)) (0 : Int32).toNatClampNeg (nI (zn S 10 + 1)))) (pTr sd s c) := cg2.mono (fun a _ z => Or.inr (z.elim Or.inl (fun e => Or.inr (Or.inl e))))
  have rm2 : rm X (sA (sI G 71 c (nI (atT S p))) (c + 2) (upd (gA (sI G 71 c (nI (atT S p))) (c + 2)) (0 : Int32).toNatClampNeg (nI (zn S 10 + 1)))) zl N := hr
  have co2 : cost G (sA (sI G 71 c (nI (atT S p))) (c + 2) (upd (gA (sI G 71 c (nI (atT S p))) (c + 2)) (0 : Int32).toNatClampNeg (nI (zn S 10 + 1)))) zl zl := cost_rf
  have e742 : gI (sA (sI G 71 c (nI (atT S p))) (c + 2) (upd (gA (sI G 71 c (nI (atT S p))) (c + 2)) (0 : Int32).toNatClampNeg (nI (zn S 10 + 1)))) 74 c = gI G 74 c := by
    show gI (sI G 71 c (nI (atT S p))) 74 c = _
    rw [gI_sI, if_neg (fun z => absurd z.1 (by decide))]
  have sd2 : ∀ a, gH (sA (sI G 71 c (nI (atT S p))) (c + 2) (upd (gA (sI G 71 c (nI (atT S p))) (c + 2)) (0 : Int32).toNatClampNeg (nI (zn S 10 + 1)))) ≤ a → sd a = s := hsd
  refine ⟨t1, c + 21, r6, t1, u2, ?_⟩
  rw [e71]
  revert kn2 l2 hk2 ch2 rm2 co2 e742 sd2 cg2
  generalize sA (sI G 71 c (nI (atT S p))) (c + 2) (upd (gA (sI G 71 c (nI (atT S p))) (c + 2)) (0 : Int32).toNatClampNeg (nI (zn S 10 + 1))) = G2
  intro kn2 cg2 l2 hk2 ch2 rm2 co2 e742 sd2
  have ch3 : ∀ {g g' : Gt}, ch G g (pTr sd s c) → ch g g' (lcs sd s g) → ch G g' (pTr sd s c) := fun a b => a.tr (b.mono (fun a _ z => Or.inl z.1))
  refine sp_dropBefore l2 hN sd2 rm2 (fun r hr' => by have := (hwL r hr').1; omega) (by omega) (fun G3 z3 rs3 sp3 l3 c3 o3 m3 => ?_)
  have sd3 : ∀ a, gH G3 ≤ a → sd a = s := fun a ha => sd2 a (Nat.le_trans c3.1 ha)
  have hk3 := hk2.ch c3
  have kn3 := kn2.lc hk2 h2 c3
  have chG3 := ch3 ch2 c3
  have ll3 := ln_l l3
  have hfl : ((zL S).filter (fun r => decide (atT S p ≤ r.1))).length ≤ (zL S).length := List.length_filter_le _ _
  obtain ⟨rr1, rr2⟩ := rm_r l3 m3
  refine ⟨hk3.2.1, c + 21, hk3.2.2.1.2.2.2.2.2.1, hk3.2.2.2.2.2.2.2.2.2.2, sp_freeReply l3 (by simp; omega) sd3 rr1 rr2 (fun G4 y sp4 pool4 z4 l4 c4 o4 => ?_)⟩
  have c4' : ch G3 G4 (lcs sd s G3) := c4.mono (fun a _ z => lcs_of z)
  have sd4 : ∀ a, gH G4 ≤ a → sd a = s := fun a ha => sd3 a (Nat.le_trans c4.1 ha)
  have hk4 := hk3.ch c4
  have kn4 := kn3.lc hk3 h2 c4'
  have chG4 := ch3 chG3 c4'
  have py := ln_hand l4
  have co4 : cost G G4 zl z4 := cost_tr (cost_tr co2 o3) o4
  have m4 : rm X G4 z4 N := m3.st o4 c4.1
  have hyc : ∀ a, c ≤ a → a ≤ c + 25 → a < c + 19 ∨ c + 24 ≤ a → a ≠ y ∧ a ≠ y + 1 ∧ a ≠ y + 2 := fun a q1 q2 q3 => by
    have := h2.r q1 q3 q2
    refine ⟨fun e => ?_, fun e => ?_, fun e => ?_⟩
    · have := py.2.1; rw [← e] at this; omega
    · have := py.2.2.1; rw [← e] at this; omega
    · have := py.2.2.2.1; rw [← e] at this; omega
  refine ⟨y, rfl, hk4.2.1, py.k.1, ?_⟩
  have e72 : gI G4 72 c = nI (zn S 7) := kn4.2.1
  rw [e72]
  rintro G5 rfl
  have cg5 : cg G4 (sI G4 258 y (nI (zn S 7))) (fun a => a = y) := cg.sI rfl
  have hk5 := hk4.ch cg5.ch
  have ch5 : ch G (sI G4 258 y (nI (zn S 7))) (pTr sd s c) := chG4.tr (cg5.ch.mono (fun a _ z => by rw [z]; exact Or.inl py.2.1))
  have kn5 : KN (sI G4 258 y (nI (zn S 7))) c _ := kn4.keep (cg5.2.2.2.2.2 _ (hyc c (by omega) (by omega) (by omega)).1) (cg5.2.2.2.2.2 _ (hyc (c + 1) (by omega) (by omega) (by omega)).1) (cg5.2.2.2.2.2 _ (hyc (c + 2) (by omega) (by omega) (by omega)).1)
  have fr5 : FR (sI G4 258 y (nI (zn S 7))) (c + 24) (c + 25) (fbs p) := hf.keep (ch5.2.2.1 _ (by omega) (pTr_n h2 (by omega))) (ch5.2.2.1 _ (by omega) (pTr_n h2 (by omega)))
  obtain ⟨_, _, _, _, pRT⟩ := id py
  obtain ⟨py1, py2, lb, py3⟩ := pRT
  have fb5 : FR (sI G4 258 y (nI (zn S 7))) (y + 1) (y + 2) lb := py3.keep (cg5.2.2.2.2.2 _ (by omega)) (cg5.2.2.2.2.2 _ (by omega))
  -- cells of the rest are as they were
  have ed : ∀ a, c ≤ a → a ≤ c + 25 → a < c + 19 ∨ c + 24 ≤ a → a ≠ c → a ≠ c + 2 → eqAt G (sI G4 258 y (nI (zn S 7))) a := fun a q1 q2 q3 q4 q5 => by
    have hc2 : sd a = s + 2 := h2.r q1 q3 q2
    have hb2 := cg2.1
    have hb3 := c3.1
    have w1 := cg2.2.2.1 a (by omega) (by omega)
    have w2 := c3.2.2.1 a (by omega) (fun z => by have := z.1; omega)
    have w3 := c4'.2.2.1 a (by omega) (fun z => by have := z.1; omega)
    exact ((w1.tr w2).tr w3).tr (cg5.2.2.2.2.2 a (hyc a q1 q2 q3).1)
  obtain ⟨p1, p2, p3, p4, p5, p6, p7⟩ := id hp
  have hd5 := (hk5.d p1 p2).1
  have dc5 : DC (sI G4 258 y (nI (zn S 7))) (c + 4 * fd p) (zrg S (fd p)) (zro S (fd p)) (ztp S (fd p)) (zdl S (fd p)) (zfl S (fd p)) := (h4 (fd p) p1 p2).keep (ed _ (by omega) (by omega) (by omega) (by omega) (by omega)) (ed _ (by omega) (by omega) (by omega) (by omega) (by omega)) (ed _ (by omega) (by omega) (by omega) (by omega) (by omega)) (ed _ (by omega) (by omega) (by omega) (by omega) (by omega))
  have e715 : gI (sI G4 258 y (nI (zn S 7))) 71 c = nI (atT S p) := kn5.1
  refine ⟨hk5.2.1, c + 24, hk5.2.2.1.2.2.2.2.2.2, hk5.2.1, hd5.1, ?_⟩
  rw [e715]
  have q24 := hyc (c + 24) (by omega) (by omega) (by omega)
  have q25 := hyc (c + 25) (by omega) (by omega) (by omega)
  refine sp_answer hd5 dc5 fr5 (fby_tells p3) py.k.1 py2 fb5 p4 (apart4 (t := s) (u := s + 2) (by omega) ⟨py.2.1, py.2.2.1, py.2.2.2.1⟩ (fun x q1 q2 => h2.r (by omega) (by omega) (by omega))) ⟨by omega, by omega⟩ ⟨q24.2.1, q24.2.2, q25.2.1, q25.2.2⟩ (fun G6 fb6 e257 e258 dc6 cg6 => ?_)
  have rp6 : RP G6 y (prep S p (atT S p)).1 (prep S p (atT S p)).2.1 (prep S p (atT S p)).2.2 := by
    refine ⟨(cg6.2.2.1 _).trans py.k.1, (cg6.2.2.2.1 _ _).trans py2, fb6, e257, e258.trans ?_⟩
    rw [gI_sI, if_pos ⟨rfl, rfl⟩]; rfl
  have l5 := lp_hand l4 (cg5.ch.mono (fun a _ z => Or.inl z)) ⟨py1, py2, lb, fb5⟩
  have l6 := lp_hand l5 (cg6.ch.mono (fun a _ z => by
    rcases z with z | z | z | z
    · exact Or.inl z
    · exact Or.inr (Or.inl z)
    · exact Or.inr (Or.inr (Or.inl z))
    · right; right; right
      rw [h2.r (by omega) (by omega) (by omega)]; omega)) rp6.rt
  have hk6 := hk5.ch cg6.ch
  have ch6 : ch G G6 (pTr sd s c) := ch5.tr (cg6.ch.mono (fun a _ z => by
    rcases z with z | z | z | z
    · rw [z]; exact Or.inl py.2.1
    · rw [z]; exact Or.inl py.2.2.1
    · rw [z]; exact Or.inl py.2.2.2.1
    · exact Or.inr (Or.inr (Or.inr (by omega)))))
  have n6 : ∀ a, c ≤ a → a ≤ c + 25 → a < c + 19 ∨ c + 24 ≤ a → ¬ (c + 4 * fd p ≤ a ∧ a ≤ c + 4 * fd p + 3) → eqAt (sI G4 258 y (nI (zn S 7))) G6 a := fun a q1 q2 q3 q4 => cg6.2.2.2.2.2 a (fun z => by
    have := hyc a q1 q2 q3
    omega)
  have kn6 : KN G6 c _ := kn5.keep (n6 c (by omega) (by omega) (by omega) (by omega)) (n6 (c + 1) (by omega) (by omega) (by omega) (by omega)) (n6 (c + 2) (by omega) (by omega) (by omega) (by omega))
  have fr6 : FR G6 (c + 24) (c + 25) (fbs p) := fr5.keep (n6 _ (by omega) (by omega) (by omega) (by omega)) (n6 _ (by omega) (by omega) (by omega) (by omega))
  have kd6 : ∀ n L, KD G6 c (gtS S p n L) := fun n L d q1 q2 => by
    show DC G6 (c + 4 * d) (va_up (zrg S) (fd p) (arg (zrg S (fd p)) (pcode S p) (flo p) (fwd p) (fisW p) (fwr p)) d) (zro S d) (ztp S d) (zdl S d) (va_up (zfl S) (fd p) (zfl S (fd p)).tail d)
    by_cases e : d = fd p
    · subst e
      rw [va_up_self, va_up_self]; exact dc6
    · rw [va_up_ne _ _ e, va_up_ne _ _ e]
      have k := fun (x : Nat) (hx1 : c + 4 * d ≤ x) (hx2 : x ≤ c + 4 * d + 3) => (ed x (by omega) (by omega) (by omega) (by omega) (by omega)).tr (n6 x (by omega) (by omega) (by omega) (by omega))
      exact (h4 d q1 q2).keep (k _ (by omega) (by omega)) (k _ (by omega) (by omega)) (k _ (by omega) (by omega)) (k _ (by omega) (by omega))
  have sd6 : ∀ a, gH G6 ≤ a → sd a = s := fun a ha => sd4 a (by rw [cg6.1] at ha; exact ha)
  have co6 : cost G G6 zl z4 := cost_tr co4 ⟨Nat.le_refl _, by rw [cg6.1]; exact Nat.le_refl _, by rw [cg6.2.1]; exact Nat.le_refl _⟩
  have m6 : rm X G6 z4 N := by
    obtain ⟨a, b, d⟩ := m4
    refine ⟨?_, ?_, ?_⟩
    · rw [cg6.1]; exact a
    · rw [cg6.2.1]; exact b
    · rw [cg6.1]; exact d
  have e746 : gI G6 74 c = gI G 74 c := by
    rw [(n6 c (by omega) (by omega) (by omega) (by omega)).2.1, gI_sI, if_neg (fun z => absurd z.1 (by decide))]
    have hb2 := cg2.1
    have hb3 := c3.1
    rw [(c4'.2.2.1 c (by omega) (fun z => by have := z.1; rw [h2.r (by omega) (by omega) (by omega)] at this; omega)).2.1, (c3.2.2.1 c (by omega) (fun z => by have := z.1; rw [h2.r (by omega) (by omega) (by omega)] at this; omega)).2.1]
    exact e742
  -- behind the reply: the gateway looks at the line
  have rest : ∀ (G7 : Gt) (z7 : Nat) (rs7 sp7 : List Nat), LN X sd s G7 (c + 21) N z7 rs7 sp7 [] pool4 (pline S p (atT S p)) → ch G6 G7 (lcs sd s G6) → cost G6 G7 z4 z7 → rm X G7 z7 N → wX1_tryFrame_138 X Pr Px k34 G7 c (c + 4 * fd p) x2 := by
    intro G7 z7 rs7 sp7 l7 c7 o7 m7
    have hk7 := hk6.ch c7
    have kn7 := kn6.lc hk6 h2 c7
    have e67 : ∀ a, c ≤ a → a ≤ c + 25 → a < c + 19 ∨ c + 24 ≤ a → eqAt G6 G7 a := fun a q1 q2 q3 => c7.2.2.1 a (by have := hk6.1; omega) (fun z => by have := z.1; rw [h2.r q1 q3 q2] at this; omega)
    have fr7 : FR G7 (c + 24) (c + 25) (fbs p) := fr6.keep (e67 _ (by omega) (by omega) (by omega)) (e67 _ (by omega) (by omega) (by omega))
    have ch7 : ch G G7 (pTr sd s c) := ch3 ch6 c7
    have e747 : gI G7 74 c = gI G 74 c := by rw [(e67 c (by omega) (by omega) (by omega)).2.1]; exact e746
    have asm : ∀ (G8 : Gt) (n : Nat → Nat) (L : List Rp) (z8 : Nat) (rs8 sp8 hd8 : List Nat), ch G7 G8 (pLc sd s c) → KN G8 c n → LN X sd s G8 (c + 21) N z8 rs8 sp8 hd8 pool4 L → zn S 0 ≤ n 0 → n 6 = zn S 6 → CP X sd s G8 c N z8 zq qs rs8 sp8 hd8 pool4 (gtS S p n L) fu ∧ FR G8 (c + 24) (c + 25) (fbs p) ∧ ch G G8 (pTr sd s c) := by
      intro G8 n L z8 rs8 sp8 hd8 c8 kn8 l8 hn0 hn6
      have ch8 : ch G G8 (pTr sd s c) := ch7.tr (c8.mono (fun a _ z => by
        rcases z with z | z | z
        · exact Or.inl z
        · exact Or.inr (Or.inl z)
        · exact Or.inr (Or.inr (Or.inl z))))
      have e8 : ∀ a, a = c + 1 ∨ a = c + 16 ∨ a = c + 17 ∨ a = c + 18 ∨ a = c + 24 ∨ a = c + 25 → eqAt G G8 a := fun a ha => ch8.2.2.1 a (by omega) (pTr_n h2 ha)
      refine ⟨⟨h1.ch ch8, h2, kn8, (kd6 n L).keep (fun a q1 q2 => (e67 a (by omega) (by omega) (by omega)).tr (c8.2.2.1 a (by have := hk7.1; omega) (fun z => ?_))), (h5.keep (e8 _ (by omega)) (e8 _ (by omega))).tm hn0, h6.keep ch8 (fun a ha hn z => ?_), h7'.trans hn6.symm, l8⟩, hf.keep (e8 _ (by omega)) (e8 _ (by omega)), ch8⟩
      · rcases z with z | z | z
        · rw [h2.r (by omega) (by omega) (by omega)] at z; omega
        · omega
        · omega
      · rcases z with z | z | z | z
        · omega
        · rw [z, h2.r (by omega) (by omega) (by omega)] at ha; omega
        · rw [z, h2.r (by omega) (by omega) (by omega)] at ha; omega
        · rw [h2.r (by omega) (by omega) (by omega)] at ha; omega
    refine lp_138 hk7 h2 kn7 l7 hN (fun a ha => sd6 a (Nat.le_trans c7.1 ha)) m7 fr7 (fun r hr' => ?_) ?_ ?_ (fun G8 z8 rs8 sp8 L8 e8 l8 kn8 c8 o8 m8 q8 => ?_) (fun G8 z8 rs8 sp8 L8 y8 r8 e8 l8 rp8 kn8 c8 o8 m8 q8 => ?_)
    · obtain ⟨a1, a2⟩ := pw1 r hr'
      have := a1.1
      have := a1.2.2.1
      exact ⟨by omega, by omega, a1.2.1⟩
    · show atT S p + zn S 2 < 2 ^ 30; omega
    · show zn S 7 < 2 ^ 30; omega
    · have eK : atK S p = (none, L8) := e8
      have eA := atS_n eK
      have kn8' : KN G8 c (nmN S p) := kn8.ext (fun j => by
        show va_up (va_up (va_up (va_up (zn S) 10 (zn S 10 + 1)) 0 (atT S p + zn S 2)) 13 (zn S 13 + 1)) 8 1 j = va_up (va_up (va_up (va_up (va_up (zn S) 0 (atT S p)) 10 (zn S 10 + 1)) 8 1) 0 (atT S p + zn S 2)) 13 (zn S 13 + 1) j
        by_cases e0 : j = 0
        · subst e0; rfl
        · by_cases e1 : j = 8
          · subst e1; rfl
          · by_cases e2 : j = 10
            · subst e2; rfl
            · by_cases e3 : j = 13
              · subst e3; rfl
              · simp only [va_up, e0, e1, e2, e3, if_false])
      obtain ⟨a1, a2, a3⟩ := asm G8 (nmN S p) L8 z8 rs8 sp8 [] c8 kn8' l8 (by show zn S 0 ≤ atT S p + zn S 2; omega) rfl
      refine k0 G8 z8 rs8 sp8 pool4 (by rw [eA]) (by rw [eA]; exact a1) a2 a3 (cost_tr (cost_tr co6 o7) o8) m8 (q8.trans e747)
    · have eK : atK S p = (some r8, L8) := e8
      have eA := atS_y eK
      obtain ⟨b1, b2⟩ := pw1 r8 (((tkS_sub (s := fbs p) (u := atT S p + zn S 2) (pline S p (atT S p)).length (pline S p (atT S p))).2.1 r8 (by rw [show tkS (fbs p) (atT S p + zn S 2) (pline S p (atT S p)).length (pline S p (atT S p)) = (some r8, L8) from eK])).1)
      have kn8' : KN G8 c (nmY S p r8) := kn8.ext (fun j => by
        show va_up (va_up (va_up (va_up (va_up (zn S) 10 (zn S 10 + 1)) 0 (r8.1 + r8.2.2.length)) 11 (zn S 11 + 1)) 12 (zn S 12 + if r8.2.1 = zn S 7 then 0 else 1)) 8 0 j = va_up (va_up (va_up (va_up (va_up (va_up (zn S) 0 (atT S p)) 10 (zn S 10 + 1)) 8 0) 0 (r8.1 + r8.2.2.length)) 11 (zn S 11 + 1)) 12 (zn S 12 + if r8.2.1 = zn S 7 then 0 else 1) j
        by_cases e0 : j = 0
        · subst e0; rfl
        · by_cases e1 : j = 8
          · subst e1; rfl
          · by_cases e2 : j = 10
            · subst e2; rfl
            · by_cases e3 : j = 11
              · subst e3; rfl
              · by_cases e4 : j = 12
                · subst e4; rfl
                · simp only [va_up, e0, e1, e2, e3, e4, if_false])
      obtain ⟨a1, a2, a3⟩ := asm G8 (nmY S p r8) L8 z8 rs8 sp8 [y8] c8 kn8' l8 (by show zn S 0 ≤ r8.1 + r8.2.2.length; omega) rfl
      refine k1 G8 z8 rs8 sp8 pool4 y8 r8 (by rw [eA]) (by rw [eA]; exact a1) rp8 a3 (cost_tr (cost_tr co6 o7) o8) m8 ?_
      rw [eA]
      have q8' : gI G8 74 c = if r8.2.1 = zn S 7 then gI G7 74 c else 1 := q8
      rw [q8', e747]
      show _ = if zn S 12 + (if r8.2.1 = zn S 7 then 0 else 1) = zn S 12 then gI G 74 c else 1
      by_cases e : r8.2.1 = zn S 7
      · rw [if_pos e, if_pos e, if_pos (by omega)]
      · rw [if_neg e, if_neg e, if_neg (by omega)]
  have tk6 := hk6.2.1
  have tr6 := hk6.2.2.1.2.2.2.2.2.1
  have tu6 := hk6.2.2.2.2.2.2.2.2.2.2
  by_cases el : (hd2 (zfl S (fd p))).1 = 1
  · rw [if_pos el]
    refine ⟨fun _ => ⟨tk6, c + 21, tr6, tu6, sp_rec l6 hN sd6 m6 (fun G7 z7 l7 c7 o7 m7 => rest G7 z7 rs3 (sp4 ++ [y]) ?_ c7 o7 m7)⟩, fun z => absurd rfl z⟩
    unfold pline
    rw [if_pos el, List.append_nil]
    exact l7
  · rw [if_neg el]
    refine ⟨fun z => absurd z (by decide), fun _ => ⟨tk6, c + 21, tr6, tu6, c + 21 + 1, (ln_t l6).2.1, ?_⟩⟩
    obtain ⟨_, _, _, _, ⟨bb, cc, hal⟩, _⟩ := ln_t l6
    refine ⟨hal.1, sp_send l6 rp6 hN sd6 m6 (fun G7 z7 l7 c7 o7 m7 => rest G7 z7 (rs3 ++ [y]) sp4 ?_ c7 o7 m7)⟩
    unfold pline
    rw [if_neg el]
    exact l7
end TRIES
