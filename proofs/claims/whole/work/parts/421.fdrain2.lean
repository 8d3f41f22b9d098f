/-! ===== a new core; leastDrain ===== -/
theorem cp_new {X : Xt} {sd : Nat → Nat} {s d : Nat} {G : Gt} {fu : Bool} (hx : xde X < gH G) (ks : KS sd s d) (kt : KT G d) (kn : KN G d n0) (kd : KD G d S0) (cc : CC G (d + 16) (fun _ => 0) (fun _ => 0) (fun _ => 0) 0) (r224 : gR G 224 (d + 19) = some (d + 19 + 1)) (al1 : AL X G (d + 19 + 1) (xde X) 0 []) (r160 : gR G 160 (d + 21) = some (d + 21 + 1)) (r161 : gR G 161 (d + 21) = some (d + 21 + 2)) (al2 : AL X G (d + 21 + 1) (xde X) 0 []) (al3 : AL X G (d + 21 + 2) (xde X) 0 []) : CP X sd s G d 166 0 0 [] [] [] [] [] S0 fu := by
  obtain ⟨t0, t1, _, _, _, _, _, _, _, u1', u2⟩ := id kt
  have k1 : ∀ j, j < 5 → 19 ≤ j + 19 → sd (d + (19 + j)) = (if j < 2 then s + 1 else s) := fun j hj _ => by
    rw [ks _ (by omega) (by omega), if_neg (by omega)]
    by_cases e : j < 2
    · rw [if_pos (by omega), if_pos e]
    · rw [if_neg (by omega), if_pos (by omega), if_neg e]
  have k19 : sd (d + 19) = s + 1 := k1 0 (by decide) (by decide)
  have k20 : sd (d + 19 + 1) = s + 1 := k1 1 (by decide) (by decide)
  have k21 : sd (d + 21) = s := k1 2 (by decide) (by decide)
  have k22 : sd (d + 21 + 1) = s := k1 3 (by decide) (by decide)
  have k23 : sd (d + 21 + 2) = s := k1 4 (by decide) (by decide)
  refine ⟨kt, ks, kn, kd, cc, ⟨xde X, 0, ⟨u1', r224, by omega, k19, k20⟩, al1, fun z => absurd rfl z, List.nodup_nil, by decide, by decide, rfl, fun k hk => absurd hk (by simp)⟩, rfl, ?_⟩
  exact ⟨xde X, 0, xde X, 0, ⟨u2, r160, r161, by omega, k21, k22, k23⟩, al2, al3, fun _ => rfl, fun z => absurd rfl z, fun z => absurd rfl z, List.Perm.refl _, List.nodup_nil, fun y hy => absurd hy (by simp), by simp, by decide, by decide, rfl, rfl, fun k hk => absurd hk (by simp)⟩
section FDRAIN2
variable {X : Xt} {sd : Nat → Nat} {G G' : Gt} {g c a z : Nat} {S S' : St} {L L' : Hr} {Pr : Int32 → Gt → Prop} {Px : String → Gt → Prop}
/-- the colours of a new core's cells -/
def kcol (sd : Nat → Nat) (s d x : Nat) : Nat := if x < d then sd x else if x < d + 19 then s + 2 else if x < d + 21 then s + 1 else if x < d + 24 then s else s + 2
theorem kcol_s {s d : Nat} : KS (kcol sd s d) s d := fun x h1 h2 => by
  unfold kcol
  rw [if_neg (by omega)]
theorem fx_leastDrain {x1 : Int32} (h : FX X sd G g c a S L z) (hr : rX X G z) (hw : WF S) (hb : bd S)
    (k1 : ∀ x G' r, x1 = nI x → x ≤ 40 → isLD S x r → FO X sd G g c a z S L G' → Pr r G')
    (k0 : ¬ (0 ≤ x1 ∧ x1 ≤ 40) → ∀ G', FO X sd G g c a z S L G' → Px "java/lang/IllegalArgumentException" G') : wX9_leastDrain X G g x1 Pr Px := by
  have hz := h.zle
  refine fx_rng h hr k0 (fun q1 q2 => ?_)
  obtain ⟨x, rfl, _, hx⟩ := i_nat (lo := 0) (hi := 40) (by decide) (by decide) q1 q2
  obtain ⟨hg, hl, zl, zq, zt, qs, rs, sp, pool, hcp, ht, ez⟩ := id h
  obtain ⟨r1, r2⟩ := id hr
  refine ⟨hg.1, fun b hb' => ?_, fun hn' => ⟨by omega, by omega, ?_⟩⟩
  · rcases ht with ⟨t, _⟩ | ⟨d, zl2, zq2, qs2, rs2, sp2, pool2, T, t1, t2, t3, t4, t5⟩
    · rw [t] at hb'; cases hb'
    · have f : FT X sd G g c a d S L z T := ⟨hg, hl, zl, zq, qs, rs, sp, pool, zl2, zq2, qs2, rs2, sp2, pool2, hcp, t1, t2, t3, t4, by omega⟩
      exact ft_loop (fun _ _ => rfl) f ch.rf cost_rf hr hw hb hx (fun G' r q f => k1 x G' r rfl hx q f)
  · have zt0 : zt = 0 := by
      rcases ht with ⟨_, t⟩ | ⟨d, zl2, zq2, qs2, rs2, sp2, pool2, T, t1, _⟩
      · exact t
      · rw [hn'] at t1; cases t1
    obtain ⟨h1, h2, h3, h4, h5, h6, h7, h8, h9, h10, h11⟩ := id hg
    rintro G1 rfl
    refine sp_newCore h10 h11 (by omega) (by omega) (fun G2 kt kn kd cc r224 al1 r160 r161 al2 al3 i74 hH hU c1 => ⟨(c1.2.1 g h4).trans h1, ?_⟩)
    have e0 : ∀ y, y < gH G → kcol sd 4 (gH G) y = sd y := fun y hy => if_pos hy
    have ks : KS (kcol sd 4 (gH G)) 4 (gH G) := kcol_s
    have hgc := hcp.1.1
    have cp1 := (hcp.rc e0).keep c1 (fun _ z => z.elim)
    revert e0 ks cp1
    generalize kcol sd 4 (gH G) = sd'
    intro e0 ks cp1
    have eg := c1.2.2.1 g h4 (fun z => z)
    have c2 : ch G2 (sR G2 322 g (some (gH G))) (fun y => y = g) := ch.sR rfl (Or.inr rfl)
    have e322 : gR (sR G2 322 g (some (gH G))) 322 g = some (gH G) := by rw [gR_sR, if_pos ⟨rfl, rfl⟩]
    have er : ∀ f, f ≠ 322 → gR (sR G2 322 g (some (gH G))) f g = gR G2 f g := fun f hf => by rw [gR_sR, if_neg (fun z => hf z.1)]
    have eH : gH (sR G2 322 g (some (gH G))) = gH G2 := rfl
    have eU : gU (sR G2 322 g (some (gH G))) = gU G2 := rfl
    have eT : gT (sR G2 322 g (some (gH G))) g = gT G2 g := rfl
    show ∀ G45, G45 = sR G2 322 g (some (gH G)) → _
    revert c2 e322 er eH eU eT
    generalize sR G2 322 g (some (gH G)) = G3
    intro c2 e322 er eH eU eT G3' e3
    subst e3
    have hx3 : xde X < gH G3' := by omega
    have ne : ∀ y, gH G ≤ y → y < gH G2 → eqAt G2 G3' y := fun y q1 q2 => c2.2.2.1 y q2 (fun z => by
      have z' : y = g := z
      omega)
    have alk : ∀ {l}, gH G ≤ l → AL X G2 l (xde X) 0 [] → AL X G3' l (xde X) 0 [] := fun hl' q => q.keep c2 (fun z => by
      have z' : _ = g := z
      omega) (fun z => absurd rfl z)
    have cpT : CP X sd' 4 G3' (gH G) 166 0 0 [] [] [] [] [] S0 false := cp_new hx3 ks (kt.ch c2) (kn.keep (ne _ (by omega) (by omega)) (ne _ (by omega) (by omega)) (ne _ (by omega) (by omega))) (kd.keep (fun y q1 q2 => ne y (by omega) (by omega))) (cc.keep (ne _ (by omega) (by omega)) (ne _ (by omega) (by omega))) (((ne _ (by omega) (by omega)).2.2.2.1 _).trans r224) (alk (by omega) al1) (((ne _ (by omega) (by omega)).2.2.2.1 _).trans r160) (((ne _ (by omega) (by omega)).2.2.2.1 _).trans r161) (alk (by omega) al2) (alk (by omega) al3)
    have cpC : CP X sd' 1 G3' c 166 zl zq qs rs sp [] pool S true := cp1.keep c2 (fun y hy => Or.inr (by
      have hy' : y = g := hy
      rw [hy', e0 g h4, h6]; decide))
    have hg3 : GX X sd' G3' g c a := ⟨eT.trans (eg.1.trans h1), (er 320 (by decide)).trans ((eg.2.2.2.1 _).trans h2), (er 321 (by decide)).trans ((eg.2.2.2.1 _).trans h3), by omega, by omega, (e0 _ h4).trans h6, (e0 _ (by omega)).trans h7, (e0 _ (by omega)).trans h8, (e0 _ h5).trans h9, hx3, (c2.2.1 _ (by omega)).trans ((c1.2.1 _ h10).trans h11)⟩
    have lk : ∀ y, y ≤ a + 2 → a ≤ y → eqAt G G3' y := fun y q1 q2 => (c1.2.2.1 y (by omega) (fun z => z)).tr (c2.2.2.1 y (by omega) (fun z => by
      have z' : y = g := z
      obtain ⟨l1, _, _, l4, l5, _⟩ := id hl
      rcases (show y = a ∨ y = a + 1 ∨ y = a + 2 by omega) with e | e | e
      · rw [← z', e, l1] at h1; cases h1
      · rw [← z', e, l4] at h1; cases h1
      · rw [← z', e, l5] at h1; cases h1))
    have f : FT X sd' G3' g c a (gH G) S L (zl + zq + (31 + 0 + 0)) S0 := ⟨hg3, hl.keep (lk _ (by omega) (by omega)) (lk _ (by omega) (by omega)) (lk _ (by omega) (by omega)), zl, zq, qs, rs, sp, pool, 0, 0, [], [], [], [], cpC, e322, cpT, Nat.zero_le _, fun k hk => absurd hk (by simp), rfl⟩
    have kc : cost G G3' z (zl + zq + (31 + 0 + 0)) := ⟨by omega, by omega, by omega⟩
    have cG : ch G G3' (fun y => sd y ≠ 7) := (c1.mono (fun y _ z => z.elim)).tq c2 (fun y hy e => by
      have e' : y = g := e
      show sd y ≠ 7
      rw [e', h6]; decide)
    exact ft_loop e0 f cG kc (hr.st kc) hw hb hx (fun G' r q f => k1 x G' r rfl hx q f)
end FDRAIN2
