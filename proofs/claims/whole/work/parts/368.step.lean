/-! ===== Core: takeStep ===== -/
theorem cntM_0 : ∀ n, cntM 0 n = 0
  | 0 => rfl
  | n + 1 => by
    show cntM 0 n + 0 / 2 ^ n % 2 = 0
    rw [cntM_0 n, Nat.zero_div]
theorem cntM_s {M n : Nat} : cntM M (n + 1) = cntM M n + if mb M n = true then 1 else 0 := by
  show cntM M n + M / 2 ^ n % 2 = _
  by_cases h : mb M n = true
  · rw [if_pos h, mb_1.mp h]
  · rw [if_neg h, mb_0.mp (by simpa using h)]
theorem cntM_pw {q : Nat} : ∀ n, cntM (2 ^ q) n = if q < n then 1 else 0
  | 0 => by rw [if_neg (by omega)]; rfl
  | n + 1 => by
    rw [cntM_s, cntM_pw n, mb_pw]
    by_cases e : n = q
    · subst e; simp
    · by_cases h : q < n
      · rw [if_pos h, if_neg (by simpa using e), if_pos (by omega)]
      · rw [if_neg h, if_neg (by simpa using e), if_neg (by omega)]
theorem cntM_pos {M q : Nat} (h : mb M q = true) : ∀ n, q < n → 1 ≤ cntM M n
  | 0, hn => absurd hn (by omega)
  | n + 1, hn => by
    rw [cntM_s]
    by_cases e : q = n
    · subst e; rw [if_pos h]; omega
    · have := cntM_pos h n (by omega); omega
theorem cntM_le (M : Nat) : ∀ n, cntM M n ≤ n
  | 0 => Nat.le_refl _
  | n + 1 => by
    have := cntM_le M n
    rw [cntM_s]; split <;> omega
theorem at15 {S : St} {p : Fp} {x : Nat} : atS (u1 S 15 x) p = (u1 (atS S p).1 15 x, (atS S p).2) := by
  cases hk : atK S p with
  | mk o L =>
    have hk' : atK (u1 S 15 x) p = (o, L) := hk
    cases o with
    | none =>
      rw [atS_n hk, atS_n hk']
      refine Prod.ext ?_ rfl
      have e : nmN (u1 S 15 x) p = va_up (nmN S p) 15 x := by
        funext j
        show va_up (va_up (va_up (va_up (va_up (zn S) 15 x) 10 (zn S 10 + 1)) 0 (atT S p + zn S 2)) 13 (zn S 13 + 1)) 8 1 j = va_up (va_up (va_up (va_up (va_up (zn S) 10 (zn S 10 + 1)) 0 (atT S p + zn S 2)) 13 (zn S 13 + 1)) 8 1) 15 x j
        by_cases e0 : j = 15
        · subst e0; rfl
        · simp only [va_up, e0, if_false]
      show gtS S p (nmN (u1 S 15 x) p) L = u1 (gtS S p (nmN S p) L) 15 x
      rw [e]; rfl
    | some r =>
      rw [atS_y hk, atS_y hk']
      refine Prod.ext ?_ rfl
      have e : nmY (u1 S 15 x) p r = va_up (nmY S p r) 15 x := by
        funext j
        show va_up (va_up (va_up (va_up (va_up (va_up (zn S) 15 x) 10 (zn S 10 + 1)) 0 (r.1 + r.2.2.length)) 11 (zn S 11 + 1)) 12 (zn S 12 + if r.2.1 = zn S 7 then 0 else 1)) 8 0 j = va_up (va_up (va_up (va_up (va_up (va_up (zn S) 10 (zn S 10 + 1)) 0 (r.1 + r.2.2.length)) 11 (zn S 11 + 1)) 12 (zn S 12 + if r.2.1 = zn S 7 then 0 else 1)) 8 0) 15 x j
        by_cases e0 : j = 15
        · subst e0; rfl
        · simp only [va_up, e0, if_false]
      show gtS S p (nmY (u1 S 15 x) p r) L = u1 (gtS S p (nmY S p r) L) 15 x
      rw [e]; rfl
theorem tr15 {p : Fp} {x : Nat} : ∀ (n : Nat) (S : St), trS p n (u1 S 15 x) = (u1 (trS p n S).1 15 x, (trS p n S).2)
  | 0, S => rfl
  | n + 1, S => by
    have e := at15 (S := S) (p := p) (x := x)
    cases ho : (atS S p).2 with
    | none =>
      rw [trS_n (S := u1 S 15 x) (by rw [e]; exact ho), trS_n ho, e]
      exact tr15 n _
    | some r =>
      rw [trS_y (S := u1 S 15 x) (r := r) (by rw [e]; exact ho), trS_y ho, e]
theorem tries15 {S : St} {p : Fp} {x : Nat} : triesS (u1 S 15 x) p = (u1 (triesS S p).1 15 x, (triesS S p).2) := by
  have e : u1 (u1 (u1 S 15 x) 7 (zn S 7 + 1)) 0 (zn S 0 + if zn S 8 = 1 then zn S 4 else 0) = u1 (u1 (u1 S 7 (zn S 7 + 1)) 0 (zn S 0 + if zn S 8 = 1 then zn S 4 else 0)) 15 x := by
    have e1 : va_up (va_up (va_up (zn S) 15 x) 7 (zn S 7 + 1)) 0 (zn S 0 + if zn S 8 = 1 then zn S 4 else 0) = va_up (va_up (va_up (zn S) 7 (zn S 7 + 1)) 0 (zn S 0 + if zn S 8 = 1 then zn S 4 else 0)) 15 x := by
      funext j
      by_cases e0 : j = 15
      · subst e0; rfl
      · simp only [va_up, e0, if_false]
    exact congrArg (un S) e1
  show trS p (zn S 3 + 1) (u1 (u1 (u1 S 15 x) 7 (zn S 7 + 1)) 0 (zn S 0 + if zn S 8 = 1 then zn S 4 else 0)) = _
  rw [e]
  exact tr15 _ _
section STEP
variable {X : Xt} {sd : Nat → Nat} {s : Nat} {G : Gt} {c N zl zq : Nat} {qs rs sp hd pool : List Nat} {S : St} {fu : Bool}
theorem CP.set {G' : Gt} {S' : St} (h : CP X sd s G c N zl zq qs rs sp hd pool S fu) (p : cg G G' (pS sd s c)) (hQ : QU X sd (s + 1) G' (c + 19) zq qs (zrq S') (zW S') (zV S') fu) (hC : CC G' (c + 16) (zcf S') (zcv S') (zct S') (zn S' 0)) (e1 : zn S' = zn S) (e2 : zrg S' = zrg S) (e3 : zro S' = zro S) (e4 : ztp S' = ztp S) (e5 : zdl S' = zdl S) (e6 : zfl S' = zfl S) (e7 : zL S' = zL S) : CP X sd s G' c N zl zq qs rs sp hd pool S' fu := by
  obtain ⟨h1, h2, h3, h4, h5, h6, h7, h8⟩ := h
  have ne : ∀ a, c ≤ a → a ≤ c + 16 → eqAt G G' a := fun a q1 q2 => p.2.2.2.2.2 a (fun z => by
    rcases z with z | z | z
    · have := z.1
      rw [h2.r q1 (by omega) (by omega)] at this; omega
    · omega
    · omega)
  refine ⟨h1.ch p.ch, h2, ?_, fun d q1 q2 => ?_, hC, hQ, ?_, ?_⟩
  · rw [e1]; exact h3.keep (ne _ (by omega) (by omega)) (ne _ (by omega) (by omega)) (ne _ (by omega) (by omega))
  · rw [e2, e3, e4, e5, e6]; exact (h4.keep (fun a q1 q2 => ne a (by omega) (by omega))) d q1 q2
  · rw [e1]; exact h7
  · rw [e7]
    refine h8.keep p.ch (fun a ha z => ?_)
    rcases z with z | z | z
    · omega
    · rw [z, h2.r (by omega) (by omega) (by omega)] at ha; omega
    · rw [z, h2.r (by omega) (by omega) (by omega)] at ha; omega
theorem CP.line {G' : Gt} {zl' : Nat} {rs' sp' hd' pool' : List Nat} (h : CP X sd s G c N zl zq qs rs sp hd pool S fu) (p : ch G G' (lcs sd s G)) (l : LN X sd s G' (c + 21) N zl' rs' sp' hd' pool' (zL S)) : CP X sd s G' c N zl' zq qs rs' sp' hd' pool' S fu := by
  obtain ⟨h1, h2, h3, h4, h5, h6, h7, h8⟩ := h
  have hc := h1.1
  have ne : ∀ a, c ≤ a → a ≤ c + 18 → eqAt G G' a := fun a q1 q2 => p.2.2.1 a (by omega) (fun z => by
    have := z.1
    rw [h2.r q1 (by omega) (by omega)] at this; omega)
  exact ⟨h1.ch p, h2, h3.keep (ne _ (by omega) (by omega)) (ne _ (by omega) (by omega)) (ne _ (by omega) (by omega)), h4.keep (fun a q1 q2 => ne a (by omega) (by omega)), h5.keep (ne _ (by omega) (by omega)) (ne _ (by omega) (by omega)), h6.keep p (fun a ha _ z => by have := z.1; omega), h7, l⟩
/-- a step may change all of the core's cells -/
def pAl (sd : Nat → Nat) (s a : Nat) : Prop := sd a = s ∨ sd a = s + 1 ∨ sd a = s + 2
theorem pAl_P (h : KS sd s c) {a : Nat} (z : pP c a) : pAl sd s a := by
  rcases z with z | z | z
  · rw [z]; exact Or.inr (Or.inl h.u)
  · rw [z]; exact Or.inr (Or.inr (h.r (by omega) (by omega) (by omega)))
  · rw [z]; exact Or.inr (Or.inr (h.r (by omega) (by omega) (by omega)))
theorem pAl_S (h : KS sd s c) {a : Nat} (z : pS sd s c a) : pAl sd s a := by
  rcases z with z | z | z
  · exact Or.inr (Or.inl z.1)
  · rw [z]; exact Or.inr (Or.inr (h.r (by omega) (by omega) (by omega)))
  · rw [z]; exact Or.inr (Or.inr (h.r (by omega) (by omega) (by omega)))
theorem pAl_T (h : KS sd s c) {a : Nat} (z : pTr sd s c a) : pAl sd s a := by
  rcases z with z | z | z | z
  · exact Or.inl z
  · rw [z]; exact Or.inr (Or.inr (h.r (by omega) (by omega) (by omega)))
  · rw [z]; exact Or.inr (Or.inr (h.r (by omega) (by omega) (by omega)))
  · exact Or.inr (Or.inr (h.r (by omega) (by omega) (by omega)))
theorem sp_takeStep {Pr : Int32 → Gt → Prop} {Px : String → Gt → Prop} (h : CP X sd s G c N zl zq qs rs sp [] pool S fu) (hw : WF S) (hN : N ≤ 2000) (hL : (zL S).length + 4 ≤ N) (ht : zn S 0 < 2 ^ 28) (h7 : zn S 7 < 2 ^ 28) (hsd : ∀ a, gH G ≤ a → sd a = s) (hr : rm X G zl N)
    (k : ∀ G' zl' rs' sp' pool', CP X sd s G' c N zl' zq qs rs' sp' [] pool' (stepS S).1 fu → ch G G' (pAl sd s) → cost G G' zl zl' → rm X G' zl' N → gI G' 74 c = (if zn (stepS S).1 12 = zn S 12 then gI G 74 c else 1) → Pr (nI (stepS S).2) G') : wX1_takeStep X G c Pr Px := by
  have h40 : zn S 6 ≤ 40 := hw.1.2.2.2.2.2.2.1
  have h2 := h.2.1
  refine ⟨h.1.2.1, sp_plan h hw (by omega) (fun G1 e1 cp1 j1 fr1 c1 => ?_) (fun G1 hq hc cp1 j1 i1 fr1 c1 => ?_) (fun G1 hq hc cp1 qg1 fr1 c1 => ?_)⟩
  · -- none is waiting
    obtain ⟨t0, t1, ⟨r1, r2, r3, r4, r5, r6, r7⟩, _, _, _, _, _, _, u1', _⟩ := id cp1.1
    refine ⟨t1, c + 19, r5, u1', ?_⟩
    rw [j1]
    refine sp_bitCount (by decide) ?_
    rw [cntM_0]
    rw [stepS_0 e1] at k
    refine ⟨fun z => absurd rfl z, fun _ => k G1 zl rs sp pool cp1 (c1.ch.mono (fun a _ z => pAl_P h2 z)) ⟨Nat.le_refl _, by rw [c1.1]; exact Nat.le_refl _, by rw [c1.2.1]; exact Nat.le_refl _⟩ (hr.st ⟨Nat.le_refl _, by rw [c1.1]; exact Nat.le_refl _, by rw [c1.2.1]; exact Nat.le_refl _⟩ c1.ch.1) ?_⟩
    rw [if_pos rfl]
    exact (c1.2.2.2.2.2 c (fun z => by rcases z with z | z | z <;> omega)).2.1 _
  · -- out of the cache
    obtain ⟨t0, t1, ⟨r1, r2, r3, r4, r5, r6, r7⟩, ⟨t2, t3, _⟩, _, _, _, _, ⟨f1, _⟩, u1', _⟩ := id cp1.1
    have en : zn S 6 = qs.length := cp1.2.2.2.2.2.2.1.symm
    rw [stepS_c (by omega) hc] at k
    have q5 := (fwN_is (zrq S) (zn S 6)).1 hq
    generalize fwN (zrq S) (zn S 6) = q at *
    refine ⟨t1, c + 19, r5, u1', ?_⟩
    rw [j1]
    refine sp_bitCount (Nat.pow_lt_pow_right (by decide) (by omega)) ?_
    rw [cntM_pw, if_pos (by omega)]
    refine ⟨fun _ => ⟨t1, c + 24, r7, f1, fun z => absurd fr1.2.2.2.1 z, fun _ => ⟨t1, c + 2, r2, by rw [t3], by rw [t3]; exact n_in (i := 4) (by decide) (by decide), by rw [t3], by rw [t3]; exact n_in (i := 4) (by decide) (by decide), ?_⟩⟩, fun z => absurd z (by decide)⟩
    have kn1 := cp1.2.2.1
    have e4 : gA G1 (c + 2) (4 : Int32).toNatClampNeg + 1 = nI (zn S 14 + 1) := by
      rw [show gA G1 (c + 2) (4 : Int32).toNatClampNeg = nI (zn S 14) from kn1.2.2.2.2 4 (by decide), nI_1]
    rw [e4]
    rintro G2 rfl
    have kn2 : KN (sA G1 (c + 2) (upd (gA G1 (c + 2)) (4 : Int32).toNatClampNeg (nI (zn S 14 + 1)))) c (va_up (zn S) 14 (zn S 14 + 1)) := kn1.cnt 4 (zn S 14 + 1)
    have cg2 : cg G1 (sA G1 (c + 2) (upd (gA G1 (c + 2)) (4 : Int32).toNatClampNeg (nI (zn S 14 + 1)))) (fun a => a = c + 2) := cg.sA rfl
    have i2 : gI (sA G1 (c + 2) (upd (gA G1 (c + 2)) (4 : Int32).toNatClampNeg (nI (zn S 14 + 1)))) 226 (c + 19) = nI q := i1
    have e71 : gI (sA G1 (c + 2) (upd (gA G1 (c + 2)) (4 : Int32).toNatClampNeg (nI (zn S 14 + 1)))) 71 c = nI (zn S 0) := kn1.1
    revert kn2 cg2 i2 e71
    generalize sA G1 (c + 2) (upd (gA G1 (c + 2)) (4 : Int32).toNatClampNeg (nI (zn S 14 + 1))) = G2
    intro kn2 cg2 i2 e71
    obtain ⟨g1, g2, g3, g4, g5, g6, g7, g8⟩ := id cp1
    have hk2 := g1.ch cg2.ch
    have e2 : ∀ a, c ≤ a → a ≤ c + 25 → a ≠ c + 2 → eqAt G1 G2 a := fun a q1 q2 q3 => cg2.2.2.2.2.2 a q3
    have nq : ∀ a, sd a = s + 1 → a ≠ c + 2 := fun a ha e => by rw [e, g2.r (by omega) (by omega) (by omega)] at ha; omega
    have nl : ∀ a, sd a = s → a ≠ c + 2 := fun a ha e => by rw [e, g2.r (by omega) (by omega) (by omega)] at ha; omega
    have u2 := g6.keep cg2.ch (fun a ha _ => nq a ha)
    have cp2 : CP X sd s G2 c N zl zq qs rs sp [] pool (u1 S 14 (zn S 14 + 1)) fu := ⟨hk2, g2, kn2, g4.keep (fun a q1 q2 => e2 a (by omega) (by omega) (by omega)), g5.keep (e2 _ (by omega) (by omega) (by omega)) (e2 _ (by omega) (by omega) (by omega)), u2, g7, g8.keep cg2.ch (fun a ha => nl a ha)⟩
    obtain ⟨t0, t1, ⟨r1, r2, r3, r4, r5, r6, r7⟩, ⟨t2, t3, _⟩, _, _, _, _, ⟨f1, _⟩, u1', _⟩ := id hk2
    obtain ⟨v1, v2, _, _, _, _, v7, _⟩ := u2.t
    refine ⟨t1, c + 19, r5, u1', c + 19 + 1, v2, t1, c + 19, r5, u1', v7, ?_⟩
    rw [i2]
    refine q_get u2 (by omega) ⟨_, rfl, (u2.e (by omega)).2.2.2.1.1, t1, sp_endFromCache hk2 g2 e71 u2 (by omega) q5 hc.1 (cp2.2.2.2.2.1) (fun k hk => ⟨(hc.2 k hk).1, (hc.2 k hk).2.1⟩) (fun G3 u3 c3 => ?_)⟩
    have c3S : cg G2 G3 (pS sd s c) := c3.mono (fun a ha => Or.inl ha)
    have n3 : ∀ a, c ≤ a → a ≤ c + 18 → eqAt G2 G3 a := fun a q1 q2 => c3.2.2.2.2.2 a (fun z => by
      have z1 : sd a = s + 1 := z.1
      rw [g2.r q1 (by omega) (by omega)] at z1; omega)
    have cc3 : CC G3 (c + 16) (zcf S) (zcv S) (zct S) (zn S 0) := cp2.2.2.2.2.1.keep (n3 _ (by omega) (by omega)) (n3 _ (by omega) (by omega))
    have cp3 : CP X sd s G3 c N zl zq qs rs sp [] pool (byC S q) fu := cp2.set c3S u3 cc3 rfl rfl rfl rfl rfl rfl rfl
    have cG : cg G G3 (pAl sd s) := (c1.mono (fun a z => pAl_P h2 z)).tr ((cg2.mono (fun a z => by rw [z]; exact Or.inr (Or.inr (g2.r (by omega) (by omega) (by omega))))).tr (c3S.mono (fun a z => pAl_S h2 z)))
    have cst : cost G G3 zl zl := ⟨Nat.le_refl _, by rw [cG.1]; exact Nat.le_refl _, by rw [cG.2.1]; exact Nat.le_refl _⟩
    refine k G3 zl rs sp pool cp3 cG.ch cst (hr.st cst cG.ch.1) ?_
    rw [if_pos (show zn (byC S q, 1).1 12 = zn S 12 from rfl), (n3 c (by omega) (by omega)).2.1, (e2 c (by omega) (by omega) (by omega)).2.1]
    exact (c1.2.2.2.2.2 c (fun z => by rcases z with z | z | z <;> omega)).2.1 _
  · -- a group is tried
    obtain ⟨t0, t1, ⟨r1, r2, r3, r4, r5, r6, r7⟩, ⟨t2, t3, t4, _⟩, _, _, _, _, ⟨f1, _⟩, u1', _⟩ := id cp1.1
    have en : qs.length = zn S 6 := cp1.2.2.2.2.2.2.1
    have hgk := grp_ok hw hq
    have hwF := grp_wfF hw hq
    rw [stepS_g (by omega) hc] at k
    have hgq : gq (grpG S) < zn S 6 := hq
    generalize grpG S = g at k hgk hwF qg1 fr1 hgq
    obtain ⟨o1, o2, o3, o4, o5, o6, o7, o8⟩ := hgk
    have cpos := cntM_pos o5 40 (by omega)
    have cle := cntM_le (gM g) 40
    have hfl := fbs_len hwF
    have fr1' : FR G1 (c + 24) (c + 25) (fbs (gfp S g)) := fr1
    obtain ⟨w0, w1, w2, w3, w4, w5, w6, w7, w8, _⟩ := hw.2.2.1.1 _ hgq
    refine ⟨t1, c + 19, r5, u1', ?_⟩
    rw [qg1.1]
    refine sp_bitCount o1 ?_
    generalize hcn : cntM (gM g) 40 = cn at *
    refine ⟨fun _ => ⟨t1, c + 24, r7, f1, fun _ => ⟨t1, c + 2, r2, by rw [t3], by rw [t3]; exact n_in (i := 5) (by decide) (by decide), by rw [t3], by rw [t3]; exact n_in (i := 5) (by decide) (by decide), ?_⟩, fun z => ?_⟩, fun z => ?_⟩
    case refine_2 =>
      rw [fr1'.2.2.2.1] at z
      have := n_inj (b := 0) (by omega) (by decide) z
      omega
    case refine_3 =>
      have := n_inj (b := 0) (by omega) (by decide) z
      omega
    have kn1 := cp1.2.2.1
    have e5 : gA G1 (c + 2) (5 : Int32).toNatClampNeg + (nI cn - 1) = nI (zn S 15 + (cn - 1)) := by
      rw [show gA G1 (c + 2) (5 : Int32).toNatClampNeg = nI (zn S 15) from kn1.2.2.2.2 5 (by decide), show nI cn - 1 = nI (cn - 1) from n_sub (b := 1) cpos, n_add]
    rw [e5]
    rintro G2 rfl
    have kn2 : KN (sA G1 (c + 2) (upd (gA G1 (c + 2)) (5 : Int32).toNatClampNeg (nI (zn S 15 + (cn - 1))))) c (va_up (zn S) 15 (zn S 15 + (cn - 1))) := kn1.cnt 5 (zn S 15 + (cn - 1))
    have cg2 : cg G1 (sA G1 (c + 2) (upd (gA G1 (c + 2)) (5 : Int32).toNatClampNeg (nI (zn S 15 + (cn - 1))))) (fun a => a = c + 2) := cg.sA rfl
    revert kn2 cg2
    generalize sA G1 (c + 2) (upd (gA G1 (c + 2)) (5 : Int32).toNatClampNeg (nI (zn S 15 + (cn - 1)))) = G2
    intro kn2 cg2
    obtain ⟨g1, g2, g3, g4, g5, g6, g7, g8⟩ := id cp1
    have hk2 := g1.ch cg2.ch
    have e2 : ∀ a, a ≠ c + 2 → eqAt G1 G2 a := fun a q3 => cg2.2.2.2.2.2 a q3
    have cp2 : CP X sd s G2 c N zl zq qs rs sp [] pool (u1 S 15 (zn S 15 + (cn - 1))) fu := ⟨hk2, g2, kn2, g4.keep (fun a q1 q2 => e2 a (by omega)), g5.keep (e2 _ (by omega)) (e2 _ (by omega)), g6.keep cg2.ch (fun a ha _ e => by rw [e, g2.r (by omega) (by omega) (by omega)] at ha; omega), g7, g8.keep cg2.ch (fun a ha e => by rw [e, g2.r (by omega) (by omega) (by omega)] at ha; omega)⟩
    have qg2 := qg1.keep (e2 (c + 19) (by omega))
    have fr2 : FR G2 (c + 24) (c + 25) (fbs (gfp S g)) := fr1'.keep (e2 _ (by omega)) (e2 _ (by omega))
    obtain ⟨t0, t1, ⟨r1, r2, r3, r4, r5, r6, r7⟩, ⟨t2, t3, t4, _⟩, _, _, _, _, ⟨f1, _⟩, u1', _⟩ := id hk2
    refine ⟨t1, c + 3, r3, t1, c + 19, r5, u1', by rw [t4], ?_⟩
    rw [qg2.2.2.1, show nI (gdv S g) - 1 = nI (gdv S g - 1) from n_sub (b := 1) w1, t4]
    have hdv3 : gdv S g ≤ 3 := w2
    refine ⟨n_in (show gdv S g - 1 < 3 by omega) (by decide), c + 4 * gdv S g, by rw [n_cl (by omega)]; exact (hk2.d w1 w2).2, t1, ?_⟩
    have cG2 : cg G G2 (pAl sd s) := (c1.mono (fun a z => pAl_P h2 z)).tr (cg2.mono (fun a z => by rw [z]; exact Or.inr (Or.inr (g2.r (by omega) (by omega) (by omega)))))
    have cst2 : cost G G2 zl zl := ⟨Nat.le_refl _, by rw [cG2.1]; exact Nat.le_refl _, by rw [cG2.2.1]; exact Nat.le_refl _⟩
    have e742 : gI G2 74 c = gI G 74 c := by
      rw [(e2 c (by omega)).2.1]
      exact (c1.2.2.2.2.2 c (fun z => by rcases z with z | z | z <;> omega)).2.1 _
    obtain ⟨tk1, tk2, tk3, tk4, tk5, tk6, tk7, tk8⟩ := tr_ok hwF (zn S 3 + 1) _ (u7_wf hw (zn S 7 + 1) (zn S 0 + if zn S 8 = 1 then zn S 4 else 0) (by omega) (by omega))
    have eT : trS (gfp S g) (zn S 3 + 1) (u1 (u1 S 7 (zn S 7 + 1)) 0 (zn S 0 + if zn S 8 = 1 then zn S 4 else 0)) = triesS S (gfp S g) := rfl
    rw [eT] at tk1 tk2 tk3 tk4 tk5 tk6 tk7 tk8
    have t15 := tries15 (S := S) (p := gfp S g) (x := zn S 15 + (cn - 1))
    generalize triesS S (gfp S g) = T at *
    obtain ⟨T1, oo⟩ := T
    have eR : zrq T1 = zrq S := tk2.1
    have e6 : zn T1 6 = zn S 6 := tk2.n3 (by decide) (by decide)
    have e15 : zn T1 15 = zn S 15 := tk2.2.2.2.2.2.2.2.2.2.2.2
    have iff4 : gw T1 g = true ↔ zrq S (gq g) 4 = 1 := by
      show (zrq T1 (gq g) 4 == 1) = true ↔ _
      rw [eR]; simp
    have nQ : ∀ {g' : Gt}, ch G2 g' (pTr sd s c) → QG g' (c + 19) (gM g) (gq g) (gdv S g) (zrq S (gq g) 4) (glo g) (ghi g) := fun p => qg2.keep (p.2.2.1 _ (by omega) (fun z => by
      rcases z with z | z | z | z
      · rw [g2.u] at z; omega
      · omega
      · omega
      · omega))
    have hmq : ∀ i, mb (gM g) i = true → gq g ≤ i := fun i hi => (o6 i hi).1
    have w16 : ghi g - glo g ≤ 16 := by split at o4 <;> omega
    have fail : ∀ (G3 : Gt) (zl3 cd : Nat) (rs3 sp3 hd3 pool3 : List Nat) (Pf : Gt → Prop), cd < 256 → CP X sd s G3 c N zl3 zq qs rs3 sp3 hd3 pool3 (u1 T1 15 (zn S 15 + (cn - 1))) fu → ch G2 G3 (pTr sd s c) → (∀ G4, CP X sd s G4 c N zl3 zq qs rs3 sp3 hd3 pool3 (failS T1 g cd (zn T1 15 + (cn - 1))) fu → cg G3 G4 (pS sd s c) → Pf G4) → wX1_failGroup X G3 c (nI cd) Pf Px := by
      intro G3 zl3 cd rs3 sp3 hd3 pool3 Pf hcd cp3 c3 kf
      obtain ⟨y1, y2, y3, y4, y5, y6, y7, y8⟩ := id cp3
      have y7' : qs.length = zn T1 6 := y7
      refine sp_failGroup (x := fun _ _ => 0) y1 y2 y3.1 y6 (nQ c3) o1 (by omega) hmq hcd y5 ⟨w1, w2⟩ (by omega) o3 w6 (fun G4 u4 cc4 c4 => kf G4 (cp3.set c4 ?_ ?_ (by rw [e15]; rfl) rfl rfl rfl rfl rfl rfl) c4)
      · rw [y7'] at u4; exact u4
      · show CC G4 (c + 16) (if gw T1 g then cfw (zcf T1) (gdv T1 g) (glo g) (gwd g) (fun _ => 0) else zcf T1) (zcv T1) (zct T1) (zn T1 0)
        have edv : gdv T1 g = gdv S g := by show zrq T1 (gq g) 1 = _; rw [eR]; rfl
        rw [edv]
        by_cases e : zrq S (gq g) 4 = 1
        · rw [if_pos e] at cc4
          rw [if_pos (iff4.mpr e)]
          exact cc4
        · rw [if_neg e] at cc4
          rw [if_neg (fun z => e (iff4.mp z))]
          exact cc4
    have fin : ∀ (G3 : Gt) (zl3 : Nat) (rs3 sp3 hd3 pool3 : List Nat) (f bb : Nat) (b : List Nat) (Pf : Gt → Prop), CP X sd s G3 c N zl3 zq qs rs3 sp3 hd3 pool3 (u1 T1 15 (zn S 15 + (cn - 1))) fu → ch G2 G3 (pTr sd s c) → FR G3 f bb b → sd f = s ∧ sd bb = s → (∀ G4, CP X sd s G4 c N zl3 zq qs rs3 sp3 hd3 pool3 (doneS T1 g b (zn T1 15 + (cn - 1))) fu → cg G3 G4 (pS sd s c) → Pf G4) → wX1_finishGroup X G3 c f Pf Px := by
      intro G3 zl3 rs3 sp3 hd3 pool3 f bb b Pf cp3 c3 hfr hfs kf
      obtain ⟨y1, y2, y3, y4, y5, y6, y7, y8⟩ := id cp3
      have y7' : qs.length = zn T1 6 := y7
      refine sp_finishGroup y1 y2 y3.1 y6 (nQ c3) o1 (by omega) (fun i hi => ?_) y5 ⟨w1, w2⟩ (by omega) o3 w16 w6 hfr hfs (fun G4 u4 cc4 c4 => kf G4 (cp3.set c4 ?_ ?_ (by rw [e15]; rfl) rfl rfl rfl rfl rfl rfl) c4)
      · obtain ⟨b1, b2, b3, b4, b5, b6, b7⟩ := o6 i hi
        show gq g ≤ i ∧ zrq T1 i 5 = 0 ∧ zrq T1 i 4 = zrq S (gq g) 4 ∧ glo g ≤ zrq T1 i 2 ∧ zrq T1 i 2 + zrq T1 i 3 ≤ ghi g
        rw [eR]
        exact ⟨b1, b3, b5, b6, b7⟩
      · have ev : (fun i k => if zrq S (gq g) 4 = 1 then 0 else wd b (3 + 2 * (zrq (u1 T1 15 (zn S 15 + (cn - 1))) i 2 - glo g + k))) = (fun i k => if gw T1 g then 0 else wd b (3 + 2 * (zrq T1 i 2 - glo g + k))) := by
          funext i k
          by_cases e : zrq S (gq g) 4 = 1
          · rw [if_pos e, if_pos (iff4.mpr e)]
          · rw [if_neg e, if_neg (fun z => e (iff4.mp z))]; rfl
        rw [ev, y7'] at u4
        exact u4
      · have ev : (fun k => if zrq S (gq g) 4 = 1 then wvk (zrq (u1 T1 15 (zn S 15 + (cn - 1)))) (gM g) (gq g) (glo g + k) (qs.length - gq g) else wd b (3 + 2 * k)) = gval T1 g b := by
          funext k
          unfold gval
          by_cases e : zrq S (gq g) 4 = 1
          · rw [if_pos e, if_pos (iff4.mpr e), y7']; rfl
          · rw [if_neg e, if_neg (fun z => e (iff4.mp z))]
        have edv : gdv S g = gdv T1 g := by show _ = zrq T1 (gq g) 1; rw [eR]; rfl
        rw [ev, edv] at cc4
        exact cc4
    have toA : ∀ {g' : Gt}, ch G2 g' (pTr sd s c) → ch G g' (pAl sd s) := fun p => cG2.ch.tr (p.mono (fun a _ z => pAl_T h2 z))
    have c12 : ∀ {g g' : Gt}, cg g g' (pS sd s c) → gI g' 74 c = gI g 74 c := fun p => (p.2.2.2.2.2 c (fun z => by
      rcases z with z | z | z
      · have := z.1; rw [h2.r (by omega) (by omega) (by omega)] at this; omega
      · omega
      · omega)).2.1 _
    refine sp_tryFrame (p := gfp S g) cp2 fr2 hw hwF hN hL ht h7 (fun a ha => hsd a (by rw [cG2.1] at ha; exact ha)) (hr.st cst2 (by rw [cG2.1]; exact Nat.le_refl _)) (fun G3 zl3 rs3 sp3 pool3 p1 p2 p3 p4 p5 p6 => ⟨(fun b e => by cases e), fun _ => ⟨p2.1.2.1, ?_⟩⟩) (fun G3 zl3 rs3 sp3 pool3 y r p1 p2 p3 p4 p5 p6 p7 => ⟨fun b e => ?_, (fun e => by cases e)⟩)
    · rw [t15] at p1 p2 p6
      have p1' : oo = none := p1
      subst p1'
      have eS : (setS S g (T1, none), cn).1 = failS T1 g 11 (zn T1 15 + (cn - 1)) := by
        show failS T1 g 11 (zn T1 15 + (cntM (gM g) 40 - 1)) = _
        rw [hcn]
      refine fail G3 zl3 11 rs3 sp3 [] pool3 _ (by decide) p2 p3 (fun G4 cp4 c4 => k G4 zl3 rs3 sp3 pool3 (by rw [eS]; exact cp4) ((toA p3).tr (c4.ch.mono (fun a _ z => pAl_S h2 z))) (cost_tr (cost_tr cst2 p4) ⟨Nat.le_refl _, by rw [c4.1]; exact Nat.le_refl _, by rw [c4.2.1]; exact Nat.le_refl _⟩) (p5.st ⟨Nat.le_refl _, by rw [c4.1]; exact Nat.le_refl _, by rw [c4.2.1]; exact Nat.le_refl _⟩ c4.ch.1) ?_)
      rw [c12 c4, p6, e742]; rfl
    · injection e with e
      subst e
      rw [t15] at p1 p2 p7
      have p1' : oo = some r := p1
      subst p1'
      have py := ln_hand p2.2.2.2.2.2.2.2
      -- behind the settling: the reply is spare again
      have fin2 : ∀ (S4 : St) (G4 : Gt), CP X sd s G4 c N zl3 zq qs rs3 sp3 [y] pool3 S4 fu → cg G3 G4 (pS sd s c) → setS S g (T1, some r) = S4 → gT G4 c = (1, 2) ∧ ∃ b99, gR G4 69 c = some b99 ∧ gT G4 b99 = (1, 5) ∧ wX4_recycle X G4 b99 y (fun G100 => Pr (nI cn) G100) := by
        intro S4 G4 cp4 c4 eS
        have cst4 : cost G3 G4 zl3 zl3 := ⟨Nat.le_refl _, by rw [c4.1]; exact Nat.le_refl _, by rw [c4.2.1]; exact Nat.le_refl _⟩
        obtain ⟨y1, y2, y3, y4, y5, y6, y7, y8⟩ := id cp4
        refine ⟨y1.2.1, c + 21, y1.2.2.1.2.2.2.2.2.1, y1.2.2.2.2.2.2.2.2.2.2, sp_rec y8 hN (fun a ha => hsd a ?_) (p6.st cst4 c4.ch.1) (fun G5 z5 l5 c5 o5 m5 => k G5 z5 rs3 (sp3 ++ [y]) pool3 ?_ (((toA p4).tr (c4.ch.mono (fun a _ z => pAl_S h2 z))).tr (c5.mono (fun a _ z => Or.inl z.1))) (cost_tr (cost_tr (cost_tr cst2 p5) cst4) o5) m5 ?_)⟩
        · have := p4.1
          have := cG2.1
          have := c4.1
          omega
        · rw [show (setS S g (T1, some r), cn).1 = S4 from eS]
          exact cp4.line c5 l5
        · have e5 : eqAt G4 G5 c := c5.2.2.1 c (by have := y1.1; omega) (fun z => by
            have := z.1
            rw [h2.r (by omega) (by omega) (by omega)] at this; omega)
          rw [e5.2.1, c12 c4, p7, e742]
          have en12 : zn (setS S g (T1, some r)) 12 = zn T1 12 := by
            unfold setS
            dsimp only
            split <;> rfl
          show _ = if zn (setS S g (T1, some r)) 12 = zn S 12 then _ else _
          rw [en12]; rfl
      refine ⟨p3.1, y + 1, p3.2.1, p3.2.2.1.1, sp_isException p3.2.2.1 ⟨fun z => ⟨p3.1, y + 1, p3.2.1, p2.1.2.1, ?_⟩, fun z => ⟨p3.1, y + 1, p3.2.1, p3.2.2.1.1, sp_byteAt (k := 2) p3.2.2.1 (by decide) ⟨p2.1.2.1, ?_⟩⟩⟩⟩
      · have z' : ¬ 128 ≤ r.2.2.getD 1 0 := (bI_eq0 _).mp z
        refine fin G3 zl3 rs3 sp3 [y] pool3 (y + 1) (y + 2) r.2.2 _ p2 p4 p3.2.2.1 ⟨py.2.2.1, py.2.2.2.1⟩ (fun G4 cp4 c4 => fin2 _ G4 cp4 c4 ?_)
        unfold setS
        dsimp only
        rw [if_neg z', hcn]
      · have z' : 128 ≤ r.2.2.getD 1 0 := by
          by_cases e : 128 ≤ r.2.2.getD 1 0
          · exact e
          · exact absurd ((bI_eq0 _).mpr e) z
        refine fail G3 zl3 (r.2.2.getD 2 0) rs3 sp3 [y] pool3 _ (gd_b p3.2.2.1.2.2.2.2.2.2 2) p2 p4 (fun G4 cp4 c4 => fin2 _ G4 cp4 c4 ?_)
        unfold setS
        dsimp only
        rw [if_pos z', hcn]
end STEP
