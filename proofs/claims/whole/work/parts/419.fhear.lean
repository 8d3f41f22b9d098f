/-! ===== the facade: feed, endFrame, verdict, length, checksum ===== -/
section FHEAR
variable {X : Xt} {sd : Nat → Nat} {G G' : Gt} {g c a z : Nat} {S S' : St} {L L' : Hr} {Pr : Int32 → Gt → Prop} {Px : String → Gt → Prop}
theorem FX.l (h : FX X sd G g c a S L z) : gT G g = (1, 10) ∧ gR G 321 g = some a ∧ LH G a (a + 1) (a + 2) L := ⟨h.1.1, h.1.2.2.1, h.2.1⟩
theorem fx_lis (h : FX X sd G g c a S L z) (hl' : LH G' a (a + 1) (a + 2) L') (p : cg G G' (pLi a)) : FX X sd G' g c a S L' z ∧ FO X sd G g c a z S L' G' := by
  obtain ⟨⟨h1, h2, h3, h4, h5, h6, h7, h8, h9, h10, h11⟩, hl, zl, zq, zt, qs, rs, sp, pool, hcp, ht, ez⟩ := h
  have col : ∀ x, pLi a x → sd x = 8 := fun x hx => by rcases hx with e | e | e <;> rw [e] <;> assumption
  have hg : ¬ pLi a g := fun hx => by
    rcases hx with e | e | e
    · rw [e, hl.1] at h1; cases h1
    · rw [e, hl.2.2.2.1] at h1; cases h1
    · rw [e, hl.2.2.2.2.1] at h1; cases h1
  have eg := p.2.2.2.2.2 g hg
  have hh := p.1
  have key : FX X sd G' g c a S L' z := by
    refine ⟨⟨eg.1.trans h1, (eg.2.2.2.1 _).trans h2, (eg.2.2.2.1 _).trans h3, by omega, by omega, h6, h7, h8, h9, by omega, (p.2.2.1 _).trans h11⟩, hl', zl, zq, zt, qs, rs, sp, pool, hcp.keep p.ch (fun x hx => Or.inr ?_), ht.keep h4 p.ch hg (fun x hx => ?_), ez⟩
    · rw [col x hx]; decide
    · rw [col x hx]; decide
  exact ⟨key, key.fc (p.mono (fun x hx => by rw [col x hx]; decide))⟩
theorem fx_feed {x1 x2 : Int32} (h : FX X sd G g c a S L z) (hr : rX X G z) (hw : wfH L)
    (k1 : ¬ ((0 ≤ x1 ∧ x1 ≤ 255) ∧ 0 ≤ x2 ∧ x2 ≤ 1000) → ∀ G', FO X sd G g c a z S L G' → Px "java/lang/IllegalArgumentException" G')
    (k3 : ∀ x gap G', x1 = nI x → x ≤ 255 → x2 = nI gap → gap ≤ 1000 → FO X sd G g c a z S (hFd L x gap) G' → Pr (nI (hl (hFd L x gap))) G') : wX9_feed X G g x1 x2 Pr Px := by
  obtain ⟨g1, g2, lh⟩ := h.l
  refine fx_rng h hr (fun q => k1 (fun e => q e.1)) (fun u1' u2 => fx_rng h hr (fun q => k1 (fun e => q e.2)) (fun v1 v2 => ?_))
  obtain ⟨x, rfl, _, x3⟩ := i_nat (lo := 0) (hi := 255) (by decide) (by decide) u1' u2
  obtain ⟨gap, rfl, _, v3⟩ := i_nat (lo := 0) (hi := 1000) (by decide) (by decide) v1 v2
  refine ⟨g1, a, g2, lh.1, sp_hear lh hw v3 (fun G1 h1 c1 => ?_)⟩
  obtain ⟨f1, f2⟩ := fx_lis h h1 c1
  obtain ⟨g1, g2, lh⟩ := f1.l
  refine ⟨g1, a, g2, lh.1, ?_⟩
  rw [lh.2.2.2.2.2.2.1]
  exact k3 x gap G1 rfl x3 rfl v3 f2
theorem fx_endFrame (h : FX X sd G g c a S L z) (hw : wfH L) (k : ∀ G', FO X sd G g c a z S (hCl L) G' → Pr (nI (hn (hCl L))) G') : wX9_endFrame X G g Pr := by
  obtain ⟨g1, g2, lh⟩ := h.l
  refine ⟨g1, a, g2, lh.1, sp_close lh hw (fun G1 h1 c1 => ?_)⟩
  obtain ⟨f1, f2⟩ := fx_lis h h1 c1
  obtain ⟨g1, g2, lh⟩ := f1.l
  refine ⟨g1, a, g2, lh.1, ?_⟩
  rw [lh.2.2.2.2.2.1]
  exact k G1 f2
theorem fx_checksum (h : FX X sd G g c a S L z) (k : FO X sd G g c a z S L G → Pr (hs L) G) : wX9_checksum X G g Pr := by
  obtain ⟨g1, g2, lh⟩ := h.l
  refine ⟨g1, a, g2, lh.1, ?_⟩
  rw [lh.2.2.2.2.2.2.2.1]
  exact k h.f0
theorem fx_verdict {x1 : Int32} (h : FX X sd G g c a S L z) (hr : rX X G z) (hw : wfH L)
    (k1 : ¬ 0 ≤ x1 → ∀ G', FO X sd G g c a z S L G' → Px "java/lang/IndexOutOfBoundsException" G')
    (k2 : 0 ≤ x1 → ¬ (x1 < 10 ∧ x1 < nI (hn L)) → FO X sd G g c a z S L G → Pr (-1) G)
    (k3 : ∀ x, x1 = nI x → x < 10 → x < hn L → FO X sd G g c a z S L G → Pr (nI (hvd L ((hn L - 1 - x) % 10))) G) : wX9_verdict X G g x1 Pr Px := by
  obtain ⟨g1, g2, lh⟩ := h.l
  have hm : ∀ x, (hn L - 1 - x) % 10 < 10 := fun x => Nat.mod_lt _ (by decide)
  refine fx_hrd h hr k1 (fun q => ⟨g1, a, g2, lh.1, sp_isKept lh hw q (fun n => ⟨fun _ => k2 q n h.f0, fun z => absurd rfl z⟩) (fun x e x1' x2 => ⟨fun z => absurd z (by decide), fun _ => ⟨g1, a, g2, lh.1, a + 1, lh.2.1, g1, a, g2, lh.1, ?_⟩⟩)⟩)
  subst e
  refine sp_placeOfL lh hw x2 ⟨by rw [lh.2.2.2.1], by rw [lh.2.2.2.1]; exact n_in (hm x) (by decide), ?_⟩
  rw [n_cl (by have := hm x; omega), lh.2.2.2.2.2.2.2.2.2.1 _ (hm x)]
  exact k3 x rfl x1' x2 h.f0
theorem fx_length {x1 : Int32} (h : FX X sd G g c a S L z) (hr : rX X G z) (hw : wfH L)
    (k1 : ¬ 0 ≤ x1 → ∀ G', FO X sd G g c a z S L G' → Px "java/lang/IndexOutOfBoundsException" G')
    (k2 : 0 ≤ x1 → ¬ (x1 < 10 ∧ x1 < nI (hn L)) → FO X sd G g c a z S L G → Pr (-1) G)
    (k3 : ∀ x, x1 = nI x → x < 10 → x < hn L → FO X sd G g c a z S L G → Pr (nI (hln L ((hn L - 1 - x) % 10))) G) : wX9_length X G g x1 Pr Px := by
  obtain ⟨g1, g2, lh⟩ := h.l
  have hm : ∀ x, (hn L - 1 - x) % 10 < 10 := fun x => Nat.mod_lt _ (by decide)
  refine fx_hrd h hr k1 (fun q => ⟨g1, a, g2, lh.1, sp_isKept lh hw q (fun n => ⟨fun _ => k2 q n h.f0, fun z => absurd rfl z⟩) (fun x e x1' x2 => ⟨fun z => absurd z (by decide), fun _ => ⟨g1, a, g2, lh.1, a + 2, lh.2.2.1, g1, a, g2, lh.1, ?_⟩⟩)⟩)
  subst e
  refine sp_placeOfL lh hw x2 ⟨by rw [lh.2.2.2.2.1], by rw [lh.2.2.2.2.1]; exact n_in (hm x) (by decide), ?_⟩
  rw [n_cl (by have := hm x; omega), lh.2.2.2.2.2.2.2.2.2.2 _ (hm x)]
  exact k3 x rfl x1' x2 h.f0
end FHEAR
