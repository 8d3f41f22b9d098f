/-! ===== the facade: gateway, core, trial, listener; what an operation gives ===== -/
theorem i_bad {x : Int32} {lo hi n : Nat} (h : ¬ (nI lo ≤ x ∧ x ≤ nI hi)) (e : x = nI n) (h1 : lo ≤ n) (h2 : n ≤ hi) (h3 : hi < 2 ^ 31) : False := h (by rw [e]; exact ⟨(n_le (by omega) (by omega)).mpr h1, (n_le (by omega) h3).mpr h2⟩)
theorem i_lt {x : Int32} {n : Nat} (h : n + 1 < 2 ^ 31) : x < nI (n + 1) ↔ x ≤ nI n := by
  rw [Int32.lt_iff_toInt_lt, Int32.le_iff_toInt_le]
  have e : ∀ k, k < 2 ^ 31 → (nI k).toInt = (k : Int) := fun k hk => by
    show (BitVec.ofNat 32 k).toInt = _
    rw [BitVec.toInt_eq_toNat_cond, BitVec.toNat_ofNat, Nat.mod_eq_of_lt (by omega), if_pos (by omega)]
  rw [e _ h, e _ (by omega)]
  omega
/-- the trial's core, if it was made -/
def TX (X : Xt) (sd : Nat → Nat) (G : Gt) (g zt n : Nat) (R : Nat → Nat → Nat) : Prop := (gR G 322 g = none ∧ zt = 0) ∨ ∃ d zl zq qs rs sp pool T, gR G 322 g = some d ∧ CP X sd 4 G d 166 zl zq qs rs sp [] pool T false ∧ qs.length ≤ n ∧ (∀ k, k < qs.length → zrq T k 0 = R k 0 ∧ zrq T k 1 = R k 1 ∧ zrq T k 2 = R k 2 ∧ zrq T k 3 = R k 3 ∧ zrq T k 4 = R k 4) ∧ zt = 31 + zl + zq
/-- the gateway's own cells -/
def GX (X : Xt) (sd : Nat → Nat) (G : Gt) (g c a : Nat) : Prop := gT G g = (1, 10) ∧ gR G 320 g = some c ∧ gR G 321 g = some a ∧ g < gH G ∧ a + 2 < gH G ∧ sd g = 8 ∧ sd a = 8 ∧ sd (a + 1) = 8 ∧ sd (a + 2) = 8 ∧ xde X < gH G ∧ gT G (xde X) = (6, 0)
/-- the facade at g, its core at c, its listener at a, shows S and L; z is what it has cost -/
def FX (X : Xt) (sd : Nat → Nat) (G : Gt) (g c a : Nat) (S : St) (L : Hr) (z : Nat) : Prop := GX X sd G g c a ∧ LH G a (a + 1) (a + 2) L ∧ ∃ zl zq zt qs rs sp pool, CP X sd 1 G c 166 zl zq qs rs sp [] pool S true ∧ TX X sd G g zt (zn S 6) (zrq S) ∧ z = zl + zq + zt
/-- room for all that is to come -/
def rX (X : Xt) (G : Gt) (z : Nat) : Prop := gH G + 3000 ≤ xC X + z ∧ gU G + 50000 ≤ xS X + 14 * z
/-- what an operation gives -/
def FO (X : Xt) (sd : Nat → Nat) (G : Gt) (g c a z : Nat) (S : St) (L : Hr) (G' : Gt) : Prop := ∃ sd' z', (∀ x, x < gH G → sd' x = sd x) ∧ FX X sd' G' g c a S L z' ∧ ch G G' (fun x => sd x ≠ 7) ∧ z ≤ z' ∧ gH G' + z ≤ gH G + z' + 1 ∧ gU G' + 14 * z ≤ gU G + 14 * z' + 6
section FACADE
variable {X : Xt} {sd : Nat → Nat} {G G' : Gt} {g c a z : Nat} {S S' : St} {L L' : Hr} {P : Nat → Prop}
theorem lnz_le {s n N zl : Nat} {rs sp hd pool : List Nat} {LL : List Rp} (h : LN X sd s G n N zl rs sp hd pool LL) : zl ≤ 20 + 7 * N := by
  obtain ⟨br, cr, bs, cs, _, _, _, _, _, _, _, _, _, q1, q2, q3, q4, _⟩ := h
  omega
theorem TX.zle {zt n : Nat} {R : Nat → Nat → Nat} (h : TX X sd G g zt n R) : zt ≤ 1390 := by
  rcases h with ⟨_, h⟩ | ⟨d, zl, zq, qs, rs, sp, pool, T, _, h, _, _, e⟩
  · omega
  · have h1 := lnz_le h.2.2.2.2.2.2.2
    have h2 := qu_z h.2.2.2.2.2.1
    omega
theorem FX.zle (h : FX X sd G g c a S L z) : z ≤ 2750 := by
  obtain ⟨_, _, zl, zq, zt, qs, rs, sp, pool, h, ht, e⟩ := h
  have h1 := lnz_le h.2.2.2.2.2.2.2
  have h2 := qu_z h.2.2.2.2.2.1
  have h3 := ht.zle
  omega
theorem GX.keep (h : GX X sd G g c a) (q : ch G G' P) (hP : ∀ x, P x → sd x ≠ 8) : GX X sd G' g c a := by
  obtain ⟨h1, h2, h3, h4, h5, h6, h7, h8, h9, h10, h11⟩ := h
  have e := q.2.2.1 g h4 (fun z => hP g z h6)
  have hh := q.1
  exact ⟨e.1.trans h1, (e.2.2.2.1 _).trans h2, (e.2.2.2.1 _).trans h3, by omega, by omega, h6, h7, h8, h9, by omega, (q.2.1 _ h10).trans h11⟩
theorem LH.kp (hg : GX X sd G g c a) (h : LH G a (a + 1) (a + 2) L) (q : ch G G' P) (hP : ∀ x, P x → sd x ≠ 8) : LH G' a (a + 1) (a + 2) L := by
  obtain ⟨h1, h2, h3, h4, h5, h6, h7, h8, h9, h10, h11⟩ := hg
  exact h.keep (q.2.2.1 _ (by omega) (fun z => hP _ z h7)) (q.2.2.1 _ (by omega) (fun z => hP _ z h8)) (q.2.2.1 _ (by omega) (fun z => hP _ z h9))
theorem TX.keep {zt n : Nat} {R : Nat → Nat → Nat} (h : TX X sd G g zt n R) (hg : g < gH G) (q : ch G G' P) (hg' : ¬ P g) (hP : ∀ x, P x → sd x ≠ 4 ∧ sd x ≠ 5 ∧ sd x ≠ 6) : TX X sd G' g zt n R := by
  have e := (q.2.2.1 g hg hg').2.2.2.1 322
  rcases h with ⟨h1, h2⟩ | ⟨d, zl, zq, qs, rs, sp, pool, T, h1, h2, h3⟩
  · exact Or.inl ⟨e.trans h1, h2⟩
  · exact Or.inr ⟨d, zl, zq, qs, rs, sp, pool, T, e.trans h1, h2.keep q (fun x hx => Or.inr (hP x hx)), h3⟩
/-- a change of nothing that the facade holds -/
theorem FX.keep (h : FX X sd G g c a S L z) (q : ch G G' P) (hP : ∀ x, P x → sd x = 7) : FX X sd G' g c a S L z := by
  obtain ⟨hg, hl, zl, zq, zt, qs, rs, sp, pool, h, ht, e⟩ := h
  have hP' : ∀ x, P x → sd x ≠ 8 := fun x hx => by rw [hP x hx]; decide
  refine ⟨hg.keep q hP', hl.kp hg q hP', zl, zq, zt, qs, rs, sp, pool, h.keep q (fun x hx => Or.inr ?_), ht.keep hg.2.2.2.1 q (fun z => hP' _ z hg.2.2.2.2.2.1) (fun x hx => ?_), e⟩
  · rw [hP x hx]; decide
  · rw [hP x hx]; decide
theorem FX.rc {sd' : Nat → Nat} (h : FX X sd G g c a S L z) (e : ∀ x, x < gH G → sd' x = sd x) : FX X sd' G g c a S L z := by
  obtain ⟨⟨h1, h2, h3, h4, h5, h6, h7, h8, h9, h10, h11⟩, hl, zl, zq, zt, qs, rs, sp, pool, h, ht, ez⟩ := h
  refine ⟨⟨h1, h2, h3, h4, h5, (e _ h4).trans h6, (e _ (by omega)).trans h7, (e _ (by omega)).trans h8, (e _ h5).trans h9, h10, h11⟩, hl, zl, zq, zt, qs, rs, sp, pool, h.rc e, ?_, ez⟩
  rcases ht with ht | ⟨d, zl, zq, qs, rs, sp, pool, T, k1, k2, k3⟩
  · exact Or.inl ht
  · exact Or.inr ⟨d, zl, zq, qs, rs, sp, pool, T, k1, k2.rc e, k3⟩
theorem FX.fo (h : FX X sd G' g c a S L z) (q : ch G G' (fun x => sd x ≠ 7)) (h1 : gH G' ≤ gH G + 1) (h2 : gU G' ≤ gU G + 6) : FO X sd G g c a z S L G' := ⟨sd, z, fun _ _ => rfl, h, q, Nat.le_refl _, by omega, by omega⟩
theorem FX.fc (h : FX X sd G' g c a S L z) (q : cg G G' (fun x => sd x ≠ 7)) : FO X sd G g c a z S L G' := h.fo q.ch (by rw [q.1]; omega) (by rw [q.2.1]; omega)
theorem FX.f0 (h : FX X sd G g c a S L z) : FO X sd G g c a z S L G := h.fc cg.rf
/-- an exception is made -/
theorem fx_ex {Q : Gt → Prop} (h : FX X sd G g c a S L z) (hr : rX X G z) (k : ∀ G', FO X sd G g c a z S L G' → Q G') : gH G + 1 ≤ xC X ∧ gU G + 6 ≤ xS X ∧ ∀ h u, gH G ≤ h → h ≤ gH G + 1 → gU G ≤ u → u ≤ gU G + 6 → Q (nX G h u) := by
  have hz := h.zle
  obtain ⟨r1, r2⟩ := hr
  refine ⟨by omega, by omega, fun hh u q1 q2 q3 q4 => k _ ?_⟩
  have q : ∀ P, ch G (nX G hh u) P := fun P => ch.nX q1
  exact (h.keep (q (fun _ => False)) (fun _ z => z.elim)).fo (q _) q2 q4
theorem fx_rng {x lo hi : Int32} {Pr : Gt → Prop} {Px : String → Gt → Prop} (h : FX X sd G g c a S L z) (hr : rX X G z) (n : ¬ (lo ≤ x ∧ x ≤ hi) → ∀ G', FO X sd G g c a z S L G' → Px "java/lang/IllegalArgumentException" G') (y : lo ≤ x → x ≤ hi → Pr G) : wX9_needInRange X G x lo hi Pr Px :=
  ⟨fun q => fx_ex h hr (n (fun e => absurd e.1 (Int32.not_le.mpr q))), fun q => ⟨fun q2 => y (Int32.not_lt.mp q) q2, fun q2 => fx_ex h hr (n (fun e => q2 e.2))⟩⟩
theorem fx_dev {x : Int32} {Pr : Gt → Prop} {Px : String → Gt → Prop} (h : FX X sd G g c a S L z) (hr : rX X G z) (n : ¬ (1 ≤ x ∧ x ≤ 3) → ∀ G', FO X sd G g c a z S L G' → Px "java/lang/IndexOutOfBoundsException" G') (y : ∀ d, x = nI d → 1 ≤ d → d ≤ 3 → Pr G) : wX9_needDevice X G x Pr Px :=
  ⟨fun q => fx_ex h hr (n (fun e => absurd e.1 (Int32.not_le.mpr q))), fun q => ⟨fun q2 => by
    obtain ⟨d, e, d1, d2⟩ := i_nat (lo := 1) (hi := 3) (by decide) (by decide) (Int32.not_lt.mp q) q2
    exact y d e d1 d2, fun q2 => fx_ex h hr (n (fun e => q2 e.2))⟩⟩
theorem fx_reg {x y : Int32} {Pr : Gt → Prop} {Px : String → Gt → Prop} (h : FX X sd G g c a S L z) (hr : rX X G z) (n : ¬ ((1 ≤ x ∧ x ≤ 3) ∧ 0 ≤ y ∧ y ≤ 31) → ∀ G', FO X sd G g c a z S L G' → Px "java/lang/IndexOutOfBoundsException" G') (k : ∀ d r, x = nI d → 1 ≤ d → d ≤ 3 → y = nI r → r < 32 → Pr G) : wX9_needRegister X G x y Pr Px :=
  fx_dev h hr (fun q => n (fun e => q e.1)) (fun d e d1 d2 => ⟨fun q => fx_ex h hr (n (fun e => absurd e.2.1 (Int32.not_le.mpr q))), fun q => ⟨fun q2 => by
    obtain ⟨r, e2, r1, r2⟩ := i_nat (lo := 0) (hi := 31) (by decide) (by decide) (Int32.not_lt.mp q) ((i_lt (n := 31) (by decide)).mp q2)
    exact k d r e d1 d2 e2 (by omega), fun q2 => fx_ex h hr (n (fun e => q2 ((i_lt (n := 31) (by decide)).mpr e.2.2)))⟩⟩)
theorem fx_cli {x : Int32} {Pr : Gt → Prop} {Px : String → Gt → Prop} (h : FX X sd G g c a S L z) (hr : rX X G z) (n : ¬ (0 ≤ x ∧ x ≤ 3) → ∀ G', FO X sd G g c a z S L G' → Px "java/lang/IndexOutOfBoundsException" G') (y : ∀ d, x = nI d → d ≤ 3 → Pr G) : wX9_needClient X G x Pr Px :=
  ⟨fun q => fx_ex h hr (n (fun e => absurd e.1 (Int32.not_le.mpr q))), fun q => ⟨fun q2 => by
    obtain ⟨d, e, d1, d2⟩ := i_nat (lo := 0) (hi := 3) (by decide) (by decide) (Int32.not_lt.mp q) ((i_lt (n := 3) (by decide)).mp q2)
    exact y d e d2, fun q2 => fx_ex h hr (n (fun e => q2 ((i_lt (n := 3) (by decide)).mpr e.2)))⟩⟩
theorem fx_sta {x : Int32} {Pr : Gt → Prop} {Px : String → Gt → Prop} (h : FX X sd G g c a S L z) (hr : rX X G z) (n : ¬ (0 ≤ x ∧ x ≤ 2) → ∀ G', FO X sd G g c a z S L G' → Px "java/lang/IndexOutOfBoundsException" G') (y : ∀ d, x = nI d → d ≤ 2 → Pr G) : wX9_needState X G x Pr Px :=
  ⟨fun q => fx_ex h hr (n (fun e => absurd e.1 (Int32.not_le.mpr q))), fun q => ⟨fun q2 => by
    obtain ⟨d, e, d1, d2⟩ := i_nat (lo := 0) (hi := 2) (by decide) (by decide) (Int32.not_lt.mp q) ((i_lt (n := 2) (by decide)).mp q2)
    exact y d e d2, fun q2 => fx_ex h hr (n (fun e => q2 ((i_lt (n := 2) (by decide)).mpr e.2)))⟩⟩
theorem fx_hrd {x : Int32} {Pr : Gt → Prop} {Px : String → Gt → Prop} (h : FX X sd G g c a S L z) (hr : rX X G z) (n : ¬ 0 ≤ x → ∀ G', FO X sd G g c a z S L G' → Px "java/lang/IndexOutOfBoundsException" G') (y : 0 ≤ x → Pr G) : wX9_needHeardIndex X G x Pr Px :=
  ⟨y, fun q => fx_ex h hr (n q)⟩
/-- what the facade holds of its core -/
theorem FX.k (h : FX X sd G g c a S L z) : KT G c ∧ KS sd 1 c ∧ KN G c (zn S) ∧ KD G c S ∧ CC G (c + 16) (zcf S) (zcv S) (zct S) (zn S 0) := by
  obtain ⟨_, _, zl, zq, zt, qs, rs, sp, pool, h, _, _⟩ := h
  exact ⟨h.1, h.2.1, h.2.2.1, h.2.2.2.1, h.2.2.2.2.1⟩
theorem CP.gen {s N zl zq : Nat} {qs rs sp hd pool : List Nat} {fu : Bool} (h : CP X sd s G c N zl zq qs rs sp hd pool S fu) (p : cg G G' P) (hP : ∀ x, P x → c ≤ x ∧ x ≤ c + 18) (k1 : KN G' c (zn S')) (k2 : KD G' c S') (k3 : CC G' (c + 16) (zcf S') (zcv S') (zct S') (zn S' 0)) (e1 : zrq S' = zrq S) (e2 : zW S' = zW S) (e3 : zV S' = zV S) (e4 : zL S' = zL S) (e6 : zn S' 6 = zn S 6) : CP X sd s G' c N zl zq qs rs sp hd pool S' fu := by
  obtain ⟨h1, h2, h3, h4, h5, h6, h7, h8⟩ := h
  have col : ∀ x, P x → sd x = s + 2 := fun x hx => h2.r (hP x hx).1 (by have := hP x hx; omega) (by have := hP x hx; omega)
  refine ⟨h1.ch p.ch, h2, k1, k2, k3, ?_, by rw [e6]; exact h7, ?_⟩
  · rw [e1, e2, e3]
    exact h6.keep p.ch (fun x hx _ hp => by rw [col x hp] at hx; omega)
  · rw [e4]
    exact h8.keep p.ch (fun x hx hp => by rw [col x hp] at hx; omega)
/-- a change of the core's own cells -/
theorem FX.gen (h : FX X sd G g c a S L z) (p : cg G G' P) (hP : ∀ x, P x → c ≤ x ∧ x ≤ c + 18) (k1 : KN G' c (zn S')) (k2 : KD G' c S') (k3 : CC G' (c + 16) (zcf S') (zcv S') (zct S') (zn S' 0)) (e1 : zrq S' = zrq S) (e2 : zW S' = zW S) (e3 : zV S' = zV S) (e4 : zL S' = zL S) (e6 : zn S' 6 = zn S 6) : FX X sd G' g c a S' L z ∧ cg G G' (fun x => sd x ≠ 7) := by
  obtain ⟨hg, hl, zl, zq, zt, qs, rs, sp, pool, h, ht, e⟩ := h
  have col : ∀ x, P x → sd x = 3 := fun x hx => h.2.1.r (hP x hx).1 (by have := hP x hx; omega) (by have := hP x hx; omega)
  have hP' : ∀ x, P x → sd x ≠ 8 := fun x hx => by rw [col x hx]; decide
  refine ⟨⟨hg.keep p.ch hP', hl.kp hg p.ch hP', zl, zq, zt, qs, rs, sp, pool, h.gen p hP k1 k2 k3 e1 e2 e3 e4 e6, ?_, e⟩, p.mono (fun x hx => by rw [col x hx]; decide)⟩
  rw [e6, e1]
  exact ht.keep hg.2.2.2.1 p.ch (fun z => hP' _ z hg.2.2.2.2.2.1) (fun x hx => by rw [col x hx]; decide)
end FACADE
