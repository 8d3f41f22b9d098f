/-! ===== Core: tryFrame ===== -/
section NUM
variable {G : Gt} {c : Nat} {n : Nat → Nat}
theorem KN.ext {n' : Nat → Nat} (h : KN G c n) (e : ∀ j, n' j = n j) : KN G c n' := by
  have : n' = n := funext e
  rw [this]; exact h
theorem KN.s71 (h : KN G c n) (x : Nat) : KN (sI G 71 c (nI x)) c (va_up n 0 x) := by
  obtain ⟨h1, h2, h3, h4, h5⟩ := h
  refine ⟨by rw [gI_sI, if_pos ⟨rfl, rfl⟩, va_up_self], by rw [gI_sI, if_neg (fun z => absurd z.1 (by decide))]; exact h2, by rw [gI_sI, if_neg (fun z => absurd z.1 (by decide))]; exact h3, fun i hi => ?_, fun i hi => ?_⟩
  · rw [va_up_ne _ _ (by omega)]; exact h4 i hi
  · rw [va_up_ne _ _ (by omega)]; exact h5 i hi
theorem KN.s72 (h : KN G c n) (x : Nat) : KN (sI G 72 c (nI x)) c (va_up n 7 x) := by
  obtain ⟨h1, h2, h3, h4, h5⟩ := h
  refine ⟨by rw [gI_sI, if_neg (fun z => absurd z.1 (by decide))]; exact h1, by rw [gI_sI, if_pos ⟨rfl, rfl⟩, va_up_self], by rw [gI_sI, if_neg (fun z => absurd z.1 (by decide))]; exact h3, fun i hi => ?_, fun i hi => ?_⟩
  · rw [va_up_ne _ _ (by omega)]; exact h4 i hi
  · rw [va_up_ne _ _ (by omega)]; exact h5 i hi
theorem KN.s73 (h : KN G c n) (x : Nat) : KN (sI G 73 c (nI x)) c (va_up n 8 x) := by
  obtain ⟨h1, h2, h3, h4, h5⟩ := h
  refine ⟨by rw [gI_sI, if_neg (fun z => absurd z.1 (by decide))]; exact h1, by rw [gI_sI, if_neg (fun z => absurd z.1 (by decide))]; exact h2, by rw [gI_sI, if_pos ⟨rfl, rfl⟩, va_up_self], fun i hi => ?_, fun i hi => ?_⟩
  · rw [va_up_ne _ _ (by omega)]; exact h4 i hi
  · rw [va_up_ne _ _ (by omega)]; exact h5 i hi
theorem KN.s74 (h : KN G c n) (x : Int32) : KN (sI G 74 c x) c n := by
  obtain ⟨h1, h2, h3, h4, h5⟩ := h
  exact ⟨by rw [gI_sI, if_neg (fun z => absurd z.1 (by decide))]; exact h1, by rw [gI_sI, if_neg (fun z => absurd z.1 (by decide))]; exact h2, by rw [gI_sI, if_neg (fun z => absurd z.1 (by decide))]; exact h3, h4, h5⟩
theorem KN.cnt (h : KN G c n) (i x : Nat) : KN (sA G (c + 2) (upd (gA G (c + 2)) i (nI x))) c (va_up n (10 + i) x) := by
  obtain ⟨h1, h2, h3, h4, h5⟩ := h
  refine ⟨?_, ?_, ?_, fun j hj => ?_, fun j hj => ?_⟩
  · rw [va_up_ne _ _ (by omega)]; exact h1
  · rw [va_up_ne _ _ (by omega)]; exact h2
  · rw [va_up_ne _ _ (by omega)]; exact h3
  · rw [va_up_ne _ _ (by omega), gA_sA', if_neg (by omega)]; exact h4 j hj
  · rw [gA_sA', if_pos rfl]
    by_cases e : j = i
    · subst e; rw [pk_us, va_up_self]
    · rw [pk_un e, va_up_ne _ _ (by omega)]; exact h5 j hj
end NUM
section TRY
variable {X : Xt} {sd : Nat → Nat} {s : Nat} {G : Gt} {c N zl zq : Nat} {qs rs sp pool : List Nat} {S : St} {fu : Bool} {L : List Rp} {n : Nat → Nat} {sf : List Nat}
/-- cells of the line, of the core itself, of its counts -/
def pLc (sd : Nat → Nat) (s c a : Nat) : Prop := sd a = s ∨ a = c ∨ a = c + 2
theorem KN.lc {G' : Gt} (h : KN G c n) (hk : KT G c) (hs : KS sd s c) (p : ch G G' (lcs sd s G)) : KN G' c n := by
  have hc := hk.1
  have ne : ∀ a, c ≤ a → a ≤ c + 2 → eqAt G G' a := fun a h1 h2 => p.2.2.1 a (by omega) (fun z => by
    have := z.1
    rw [hs.r h1 (by omega) (by omega)] at this; omega)
  exact h.keep (ne _ (by omega) (by omega)) (ne _ (by omega) (by omega)) (ne _ (by omega) (by omega))
theorem KS.f {sd : Nat → Nat} (hs : KS sd s c) : sd (c + 24) ≠ s ∧ sd (c + 25) ≠ s := by
  constructor
  · rw [hs.r (by omega) (by omega) (by omega)]; omega
  · rw [hs.r (by omega) (by omega) (by omega)]; omega
theorem lp_138 {a1 : Nat} {x2 : Int32} {Pr : Option Nat → Gt → Prop} {Px : String → Gt → Prop} {k34 : Gt → Nat → Nat → Int32 → Prop} (hk : KT G c) (hs : KS sd s c) (hkn : KN G c n) (hl : LN X sd s G (c + 21) N zl rs sp [] pool L) (hN : N ≤ 2000) (hsd : ∀ a, gH G ≤ a → sd a = s) (hr : rm X G zl N) (hf : FR G (c + 24) (c + 25) sf) (hB : ∀ r ∈ L, r.1 < 2 ^ 30 ∧ 2 ≤ r.2.2.length ∧ r.2.1 ≤ n 7) (ht : n 0 + n 2 < 2 ^ 30) (h7 : n 7 < 2 ^ 30)
    (k0 : ∀ G' zl' rs' sp' L', tkS sf (n 0 + n 2) L.length L = (none, L') → LN X sd s G' (c + 21) N zl' rs' sp' [] pool L' → KN G' c (va_up (va_up (va_up n 8 1) 0 (n 0 + n 2)) 13 (n 13 + 1)) → ch G G' (pLc sd s c) → cost G G' zl zl' → rm X G' zl' N → gI G' 74 c = gI G 74 c → k34 G' c a1 (x2 + 1))
    (k1 : ∀ G' zl' rs' sp' L' y r, tkS sf (n 0 + n 2) L.length L = (some r, L') → LN X sd s G' (c + 21) N zl' rs' sp' [y] pool L' → RP G' y r.1 r.2.1 r.2.2 → KN G' c (va_up (va_up (va_up (va_up n 8 0) 0 (r.1 + r.2.2.length)) 11 (n 11 + 1)) 12 (n 12 + if r.2.1 = n 7 then 0 else 1)) → ch G G' (pLc sd s c) → cost G G' zl zl' → rm X G' zl' N → gI G' 74 c = (if r.2.1 = n 7 then gI G 74 c else 1) → Pr (some y) G') : wX1_tryFrame_138 X Pr Px k34 G c a1 x2 := by
  obtain ⟨t0, t1, ⟨r1, r2, r3, r4, r5, r6, r7⟩, ⟨t2, t3, _⟩, _, _, _, _, ⟨f1, f2, f3⟩, u1, u2⟩ := id hk
  refine ⟨t1, c + 21, r6, t1, c + 24, r7, t1, t1, c + 1, r1, by rw [t2], by rw [t2]; exact n_in (i := 1) (by decide) (by decide), u2, ?_⟩
  rw [hkn.1, show gA G (c + 1) (1 : Int32).toNatClampNeg = nI (n 2) from hkn.2.2.2.1 1 (by decide), n_add]
  have toC : ∀ {G' : Gt}, ch G G' (lcs sd s G) → ch G G' (pLc sd s c) := fun p => p.mono (fun a _ z => Or.inl z.1)
  have cc : c < gH G := by omega
  have ncs : ∀ (g : Gt), ¬ lcs sd s g c := fun g z => by
    have := z.1
    rw [hs.r (by omega) (by omega) (by omega)] at this; omega
  refine sp_take hl hN hsd hr (fun r hr => ⟨(hB r hr).1, (hB r hr).2.1⟩) ht hf ⟨hs.f.1, hs.f.2, by omega, by omega⟩ (fun G1 z1 rs1 sp1 L1 e1 l1 c1 o1 m1 => ⟨(fun b e => by cases e), fun _ => ?_⟩) (fun G1 z1 rs1 sp1 L1 y r e1 l1 rp1 c1 o1 m1 => ⟨fun b e => ?_, (fun e => by cases e)⟩)
  · -- none was taken
    have hk1 := hk.ch c1
    have kn1 := hkn.lc hk hs c1
    obtain ⟨t0, t1, ⟨r1, r2, r3, r4, r5, r6, r7⟩, ⟨t2, t3, _⟩, _⟩ := id hk1
    refine ⟨t1, Or.inr rfl, ?_⟩
    rintro G2 rfl
    have kn2 := kn1.s73 1
    refine ⟨fun _ => ⟨t1, t1, c + 1, r1, by show (gT G1 (c + 1)).1 = 2; rw [t2], by show vp_in 1 (gT G1 (c + 1)).2; rw [t2]; exact n_in (i := 1) (by decide) (by decide), t1, ?_⟩, fun b e => by cases e⟩
    have e71 : gI (sI G1 73 c 1) 71 c = nI (n 0) := kn2.1
    have e2 : gA (sI G1 73 c 1) (c + 1) (1 : Int32).toNatClampNeg = nI (n 2) := kn2.2.2.2.1 1 (by decide)
    rw [e71, e2, n_add]
    rintro G3 rfl
    have kn3 := kn2.s71 (n 0 + n 2)
    have e3 : gA (sI (sI G1 73 c 1) 71 c (nI (n 0 + n 2))) (c + 2) (3 : Int32).toNatClampNeg + 1 = nI (n 13 + 1) := by
      rw [show gA (sI (sI G1 73 c 1) 71 c (nI (n 0 + n 2))) (c + 2) (3 : Int32).toNatClampNeg = nI (n 13) from kn3.2.2.2.2 3 (by decide), nI_1]
    refine ⟨t1, c + 2, r2, by show (gT G1 (c + 2)).1 = 2; rw [t3], by show vp_in 3 (gT G1 (c + 2)).2; rw [t3]; exact n_in (i := 3) (by decide) (by decide), by show (gT G1 (c + 2)).1 = 2; rw [t3], by show vp_in 3 (gT G1 (c + 2)).2; rw [t3]; exact n_in (i := 3) (by decide) (by decide), ?_⟩
    rw [e3]
    rintro G4 rfl
    have kn4 := kn3.cnt 3 (n 13 + 1)
    have cx : ch G1 (sA (sI (sI G1 73 c 1) 71 c (nI (n 0 + n 2))) (c + 2) (upd (gA (sI (sI G1 73 c 1) 71 c (nI (n 0 + n 2))) (c + 2)) (3 : Int32).toNatClampNeg (nI (n 13 + 1)))) (fun a => a = c ∨ a = c + 2) := ((cg.sI (Or.inl rfl)).tr ((cg.sI (Or.inl rfl)).tr (cg.sA (Or.inr rfl)))).ch
    refine k0 _ z1 rs1 sp1 L1 e1 (l1.keep cx (fun a ha hh => ?_)) kn4 ((toC c1).tr (cx.mono (fun a _ hh => Or.inr hh))) (cost_tr o1 ⟨Nat.le_refl _, Nat.le_refl _, Nat.le_refl _⟩) m1 ?_
    · rcases hh with e | e
      · rw [e, hs.r (by omega) (by omega) (by omega)] at ha; omega
      · rw [e, hs.r (by omega) (by omega) (by omega)] at ha; omega
    · show gI (sI (sI G1 73 c 1) 71 c (nI (n 0 + n 2))) 74 c = _
      rw [gI_sI, if_neg (fun z => absurd z.1 (by decide)), gI_sI, if_neg (fun z => absurd z.1 (by decide))]
      exact (c1.2.2.1 c cc (ncs _)).2.1 _
  · -- one was taken
    injection e with e
    subst e
    have hk1 := hk.ch c1
    have kn1 := hkn.lc hk hs c1
    obtain ⟨t0, t1, ⟨r1, r2, r3, r4, r5, r6, r7⟩, ⟨t2, t3, _⟩, _⟩ := id hk1
    have py := ln_hand l1
    have hyc : y ≠ c ∧ y ≠ c + 2 ∧ y + 1 ≠ c := by
      refine ⟨fun e => ?_, fun e => ?_, fun e => ?_⟩
      · have := py.2.1; rw [e, hs.r (by omega) (by omega) (by omega)] at this; omega
      · have := py.2.1; rw [e, hs.r (by omega) (by omega) (by omega)] at this; omega
      · have := py.2.2.1; rw [e, hs.r (by omega) (by omega) (by omega)] at this; omega
    refine ⟨t1, Or.inl rfl, ?_⟩
    rintro G2 rfl
    have kn2 := kn1.s73 0
    refine ⟨(fun e => by cases e), fun b e => ?_⟩
    injection e with e
    subst e
    have rpl : gI (sI G1 73 c 0) 257 y = nI r.1 := by
      rw [gI_sI, if_neg (fun z => hyc.1 z.2)]; exact rp1.2.2.2.1
    have rsz : gI (sI G1 73 c 0) 129 (y + 1) = nI r.2.2.length := by
      rw [gI_sI, if_neg (fun z => hyc.2.2 z.2)]; exact rp1.2.2.1.2.2.2.1
    refine ⟨t1, ?_⟩
    unfold wX1_noteTaken
    refine ⟨rp1.1, rp1.1, y + 1, rp1.2.1, rp1.2.2.1.1, t1, ?_⟩
    rw [rpl, rsz, n_add]
    rintro G3 rfl
    have kn3 := kn2.s71 (r.1 + r.2.2.length)
    have e3 : gA (sI (sI G1 73 c 0) 71 c (nI (r.1 + r.2.2.length))) (c + 2) (1 : Int32).toNatClampNeg + 1 = nI (n 11 + 1) := by
      rw [show gA (sI (sI G1 73 c 0) 71 c (nI (r.1 + r.2.2.length))) (c + 2) (1 : Int32).toNatClampNeg = nI (n 11) from kn3.2.2.2.2 1 (by decide), nI_1]
    refine ⟨t1, c + 2, r2, by show (gT G1 (c + 2)).1 = 2; rw [t3], by show vp_in 1 (gT G1 (c + 2)).2; rw [t3]; exact n_in (i := 1) (by decide) (by decide), by show (gT G1 (c + 2)).1 = 2; rw [t3], by show vp_in 1 (gT G1 (c + 2)).2; rw [t3]; exact n_in (i := 1) (by decide) (by decide), ?_⟩
    rw [e3]
    rintro G4 rfl
    have kn4 := kn3.cnt 1 (n 11 + 1)
    have cx : ch G1 (sA (sI (sI G1 73 c 0) 71 c (nI (r.1 + r.2.2.length))) (c + 2) (upd (gA (sI (sI G1 73 c 0) 71 c (nI (r.1 + r.2.2.length))) (c + 2)) (1 : Int32).toNatClampNeg (nI (n 11 + 1)))) (fun a => a = c ∨ a = c + 2) := ((cg.sI (Or.inl rfl)).tr ((cg.sI (Or.inl rfl)).tr (cg.sA (Or.inr rfl)))).ch
    have nP : ∀ a, sd a = s → ¬ (a = c ∨ a = c + 2) := fun a ha hh => by
      rcases hh with e | e
      · rw [e, hs.r (by omega) (by omega) (by omega)] at ha; omega
      · rw [e, hs.r (by omega) (by omega) (by omega)] at ha; omega
    have rp4 : ∀ {G' : Gt}, ch G1 G' (fun a => a = c ∨ a = c + 2) → RP G' y r.1 r.2.1 r.2.2 := fun p => rp1.keep (p.2.2.1 _ (by have := py.1; omega) (nP _ py.2.1)) (p.2.2.1 _ (by have := py.1; omega) (nP _ py.2.2.1)) (p.2.2.1 _ py.1 (nP _ py.2.2.2.1))
    have e258 := (rp4 cx).2.2.2.2
    have e72 : gI (sA (sI (sI G1 73 c 0) 71 c (nI (r.1 + r.2.2.length))) (c + 2) (upd (gA (sI (sI G1 73 c 0) 71 c (nI (r.1 + r.2.2.length))) (c + 2)) (1 : Int32).toNatClampNeg (nI (n 11 + 1)))) 72 c = nI (n 7) := kn4.2.1
    have e74 : gI (sA (sI (sI G1 73 c 0) 71 c (nI (r.1 + r.2.2.length))) (c + 2) (upd (gA (sI (sI G1 73 c 0) 71 c (nI (r.1 + r.2.2.length))) (c + 2)) (1 : Int32).toNatClampNeg (nI (n 11 + 1)))) 74 c = gI G 74 c := by
      show gI (sI (sI G1 73 c 0) 71 c (nI (r.1 + r.2.2.length))) 74 c = _
      rw [gI_sI, if_neg (fun z => absurd z.1 (by decide)), gI_sI, if_neg (fun z => absurd z.1 (by decide))]
      exact (c1.2.2.1 c cc (ncs _)).2.1 _
    have h7' : r.2.1 ≤ n 7 := (hB r (((tkS_sub (s := sf) (u := n 0 + n 2) L.length L).2.1 r (by rw [e1])).1)).2.2
    refine ⟨rp1.1, t1, ?_⟩
    rw [e258, e72, nI_eq (by omega) (by omega)]
    refine ⟨fun z => ?_, fun z => ⟨t1, c + 2, r2, by show (gT G1 (c + 2)).1 = 2; rw [t3], by show vp_in 2 (gT G1 (c + 2)).2; rw [t3]; exact n_in (i := 2) (by decide) (by decide), by show (gT G1 (c + 2)).1 = 2; rw [t3], by show vp_in 2 (gT G1 (c + 2)).2; rw [t3]; exact n_in (i := 2) (by decide) (by decide), ?_⟩⟩
    · refine k1 _ z1 rs1 sp1 L1 y r e1 (l1.keep cx (fun a ha => nP a ha)) (rp4 cx) (kn4.ext (fun j => ?_)) ((toC c1).tr (cx.mono (fun a _ hh => Or.inr hh))) (cost_tr o1 ⟨Nat.le_refl _, Nat.le_refl _, Nat.le_refl _⟩) m1 (by rw [if_pos z]; exact e74)
      rw [if_pos z]
      by_cases e : j = 12
      · subst e; rfl
      · rw [va_up_ne _ _ e]
    · have e5 : gA (sA (sI (sI G1 73 c 0) 71 c (nI (r.1 + r.2.2.length))) (c + 2) (upd (gA (sI (sI G1 73 c 0) 71 c (nI (r.1 + r.2.2.length))) (c + 2)) (1 : Int32).toNatClampNeg (nI (n 11 + 1)))) (c + 2) (2 : Int32).toNatClampNeg + 1 = nI (n 12 + 1) := by
        rw [show gA (sA (sI (sI G1 73 c 0) 71 c (nI (r.1 + r.2.2.length))) (c + 2) (upd (gA (sI (sI G1 73 c 0) 71 c (nI (r.1 + r.2.2.length))) (c + 2)) (1 : Int32).toNatClampNeg (nI (n 11 + 1)))) (c + 2) (2 : Int32).toNatClampNeg = nI (n 12) from kn4.2.2.2.2 2 (by decide), nI_1]
      rw [e5]
      rintro G5 rfl
      refine ⟨t1, ?_⟩
      rintro G6 rfl
      have kn6 := (kn4.cnt 2 (n 12 + 1)).s74 1
      have cy := fun (g : Nat → Int32) => cx.tr ((ch.sA (g := g) (P := fun a => a = c ∨ a = c + 2) (Or.inr rfl)).tr (ch.sI (P := fun a => a = c ∨ a = c + 2) (f := 74) (a := c) (x := 1) (Or.inl rfl)))
      refine k1 _ z1 rs1 sp1 L1 y r e1 (l1.keep (cy _) (fun a ha => nP a ha)) (rp4 (cy _)) (kn6.ext (fun j => ?_)) ((toC c1).tr ((cy _).mono (fun a _ hh => Or.inr hh))) (cost_tr o1 ⟨Nat.le_refl _, Nat.le_refl _, Nat.le_refl _⟩) m1 (by rw [if_neg z, gI_sI, if_pos ⟨rfl, rfl⟩])
      rw [if_neg z]
end TRY
