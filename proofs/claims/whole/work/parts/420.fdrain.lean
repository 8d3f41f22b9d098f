/-! ===== the facade: leastDrain ===== -/
section FDRAIN
variable {X : Xt} {sd : Nat → Nat} {G G' : Gt} {g c a z : Nat} {S S' : St} {L L' : Hr} {Pr : Int32 → Gt → Prop} {Px : String → Gt → Prop}
/-- the facade with its trial at d showing T -/
def FT (X : Xt) (sd : Nat → Nat) (G : Gt) (g c a d : Nat) (S : St) (L : Hr) (z : Nat) (T : St) : Prop := GX X sd G g c a ∧ LH G a (a + 1) (a + 2) L ∧ ∃ zl zq qs rs sp pool zl2 zq2 qs2 rs2 sp2 pool2, CP X sd 1 G c 166 zl zq qs rs sp [] pool S true ∧ gR G 322 g = some d ∧ CP X sd 4 G d 166 zl2 zq2 qs2 rs2 sp2 [] pool2 T false ∧ qs2.length ≤ zn S 6 ∧ (∀ k, k < qs2.length → zrq T k 0 = zrq S k 0 ∧ zrq T k 1 = zrq S k 1 ∧ zrq T k 2 = zrq S k 2 ∧ zrq T k 3 = zrq S k 3 ∧ zrq T k 4 = zrq S k 4) ∧ z = zl + zq + (31 + zl2 + zq2)
theorem FT.fx {d : Nat} {T : St} (h : FT X sd G g c a d S L z T) : FX X sd G g c a S L z := by
  obtain ⟨hg, hl, zl, zq, qs, rs, sp, pool, zl2, zq2, qs2, rs2, sp2, pool2, h1, h2, h3, h4, h5, h6⟩ := h
  exact ⟨hg, hl, zl, zq, 31 + zl2 + zq2, qs, rs, sp, pool, h1, Or.inr ⟨d, zl2, zq2, qs2, rs2, sp2, pool2, T, h2, h3, h4, h5, rfl⟩, h6⟩
theorem FT.gg {d : Nat} {T : St} (h : FT X sd G g c a d S L z T) : gT G g = (1, 10) ∧ gR G 320 g = some c ∧ gR G 322 g = some d ∧ gT G c = (1, 2) ∧ gT G d = (1, 2) := by
  obtain ⟨hg, hl, zl, zq, qs, rs, sp, pool, zl2, zq2, qs2, rs2, sp2, pool2, h1, h2, h3, h4, h5, h6⟩ := h
  exact ⟨hg.1, hg.2.1, h2, h1.1.2.1, h3.1.2.1⟩
/-- the trial takes over the core's state -/
theorem ft_copy {d : Nat} {T : St} {Pq : Gt → Prop} (h : FT X sd G g c a d S L z T) (hr : rX X G z) (hw : WF S) (hb : bd S)
    (k : ∀ G' sd' z', (∀ x, x < gH G → sd' x = sd x) → (∀ x, gH G' ≤ x → sd' x = 4) → FT X sd' G' g c a d S L z' S → ch G G' (fun x => sd x ≠ 7) → cost G G' z z' → gI G' 74 d = 0 → Pq G') : wX1_copyFrom X G d c Pq Px := by
  obtain ⟨q1, q2, q3⟩ := bd_t hw hb
  obtain ⟨hg, hl, zl, zq, qs, rs, sp, pool, zl2, zq2, qs2, rs2, sp2, pool2, h1, h2, h3, h4, h5, h6⟩ := h
  have hzq := qu_z h1.2.2.2.2.2.1
  have hzl := lnz_le h1.2.2.2.2.2.2.2
  have hzq2 := qu_z h3.2.2.2.2.2.1
  have hzl2 := lnz_le h3.2.2.2.2.2.2.2
  have el : qs.length = zn S 6 := h1.2.2.2.2.2.2.1
  obtain ⟨r1, r2⟩ := hr
  have s8 : zn S 8 ≤ 1 := hw.1.2.2.2.2.2.2.2
  refine sp_Kcopy h3 h1 (Or.inr (by decide)) (by omega) h5 (by decide) (by omega) s8 ⟨by omega, by omega, hg.2.2.2.2.2.2.2.2.2.1⟩ (fun G' sd' zl' zq' qs' rs' sp' pool' e0 e1 cp2 cp1 c' cs' l1 l2 i74 => ?_)
  have pc : ∀ x, pAl sd 4 x → sd x ≠ 8 := fun x hx => by rcases hx with e | e | e <;> rw [e] <;> decide
  have hg' := hg.keep c' pc
  have hl' := hl.kp hg c' pc
  obtain ⟨u1', u2, u3, u4, u5, u6, u7, u8, u9, u10, u11⟩ := id hg
  obtain ⟨k1, k2, k3⟩ := cs'
  have hg2 : GX X sd' G' g c a := ⟨hg'.1, hg'.2.1, hg'.2.2.1, hg'.2.2.2.1, hg'.2.2.2.2.1, (e0 _ u4).trans u6, (e0 _ (by omega)).trans u7, (e0 _ (by omega)).trans u8, (e0 _ u5).trans u9, hg'.2.2.2.2.2.2.2.2.2.1, hg'.2.2.2.2.2.2.2.2.2.2⟩
  have e322 : gR G' 322 g = some d := ((c'.2.2.1 g u4 (fun z => pc g z u6)).2.2.2.1 322).trans h2
  exact k G' sd' (zl + zq + (31 + zl' + zq')) e0 e1 ⟨hg2, hl', zl, zq, qs, rs, sp, pool, zl', zq', qs', rs', sp', pool', cp1, e322, cp2, Nat.le_of_eq cp2.2.2.2.2.2.2.1, fun _ _ => ⟨rfl, rfl, rfl, rfl, rfl⟩, rfl⟩ (c'.mono (fun x _ hx => by rcases hx with e | e | e <;> rw [e] <;> decide)) ⟨by omega, by omega, by omega⟩ i74
/-- the trial's drain is set -/
theorem ft_set {d q : Nat} {T : St} (h : FT X sd G g c a d S L z T) : FT X sd (sA G (d + 1) (upd (gA G (d + 1)) 3 (nI q))) g c a d S L z (u1 T 4 q) ∧ cg G (sA G (d + 1) (upd (gA G (d + 1)) 3 (nI q))) (fun x => sd x ≠ 7) := by
  obtain ⟨hg, hl, zl, zq, qs, rs, sp, pool, zl2, zq2, qs2, rs2, sp2, pool2, h1, h2, h3, h4, h5, h6⟩ := h
  have p : cg G (sA G (d + 1) (upd (gA G (d + 1)) 3 (nI q))) (fun x => x = d + 1) := cg.sA rfl
  have col : sd (d + 1) = 6 := h3.2.1.r (by omega) (by omega) (by omega)
  have pc : ∀ x, x = d + 1 → sd x = 6 := fun x e => by rw [e]; exact col
  obtain ⟨k1, k2, k3, k4, k5, k6, k7, k8⟩ := id h3
  have cp2 : CP X sd 4 (sA G (d + 1) (upd (gA G (d + 1)) 3 (nI q))) d 166 zl2 zq2 qs2 rs2 sp2 [] pool2 (u1 T 4 q) false := h3.gen (S' := u1 T 4 q) p (fun x e => by omega) (k3.st (by decide)) (KD.keep (S := u1 T 4 q) k4 (fun x q1 q2 => eqAt.sA (by omega))) (by
    rw [zn_u1n (by decide)]
    exact CC.keep k5 (eqAt.sA (by omega)) (eqAt.sA (by omega))) rfl rfl rfl rfl (zn_u1n (by decide))
  refine ⟨⟨hg.keep p.ch (fun x e => by rw [pc x e]; decide), hl.kp hg p.ch (fun x e => by rw [pc x e]; decide), zl, zq, qs, rs, sp, pool, zl2, zq2, qs2, rs2, sp2, pool2, h1.keep p.ch (fun x e => Or.inr (by rw [pc x e]; decide)), h2, cp2, h4, h5, h6⟩, p.mono (fun x e => by rw [pc x e]; decide)⟩
/-- a step of the trial -/
theorem ft_ts {d : Nat} {T : St} (h : FT X sd G g c a d S L z T) (hr : rX X G z) (hw : WF T) (hb : bd T) (hsd : ∀ x, gH G ≤ x → sd x = 4)
    (k : ∀ G' z', FT X sd G' g c a d S L z' (stepS T).1 → ch G G' (fun x => sd x ≠ 7) → cost G G' z z' → gI G' 74 d = (if zn (stepS T).1 12 = zn T 12 then gI G 74 d else 1) → Pr (nI (stepS T).2) G') : wX1_takeStep X G d Pr Px := by
  obtain ⟨q1, q2, q3⟩ := bd_t hw hb
  obtain ⟨hg, hl, zl, zq, qs, rs, sp, pool, zl2, zq2, qs2, rs2, sp2, pool2, h1, h2, h3, h4, h5, h6⟩ := h
  have hzq := qu_z h1.2.2.2.2.2.1
  have hzl := lnz_le h1.2.2.2.2.2.2.2
  have hzq2 := qu_z h3.2.2.2.2.2.1
  have hzl2 := lnz_le h3.2.2.2.2.2.2.2
  obtain ⟨r1, r2⟩ := hr
  refine sp_takeStep h3 hw (by decide) (by omega) (by omega) (by omega) hsd ⟨by omega, by omega, hg.2.2.2.2.2.2.2.2.2.1⟩ (fun G' zl' rs' sp' pool' cp' c' cs' _ i74 => ?_)
  have pc : ∀ x, pAl sd 4 x → sd x ≠ 8 := fun x hx => by rcases hx with e | e | e <;> rw [e] <;> decide
  have e322 : gR G' 322 g = some d := ((c'.2.2.1 g hg.2.2.2.1 (fun z => pc g z hg.2.2.2.2.2.1)).2.2.2.1 322).trans h2
  obtain ⟨k1, k2, k3⟩ := cs'
  refine k G' (zl + zq + (31 + zl' + zq2)) ⟨hg.keep c' pc, hl.kp hg c' pc, zl, zq, qs, rs, sp, pool, zl', zq2, qs2, rs', sp', pool', h1.keep c' (fun x hx => Or.inr ?_), e322, cp', h4, fun k hk => ?_, rfl⟩ (c'.mono (fun x _ hx => by rcases hx with e | e | e <;> rw [e] <;> decide)) ⟨by omega, by omega, by omega⟩ i74
  · rcases hx with e | e | e <;> rw [e] <;> decide
  · obtain ⟨u0, u1', u2, u3, u4⟩ := h5 k hk
    exact ⟨((step_rq hw k 0).1 (by decide)).trans u0, ((step_rq hw k 1).1 (by decide)).trans u1', ((step_rq hw k 2).1 (by decide)).trans u2, ((step_rq hw k 3).1 (by decide)).trans u3, ((step_rq hw k 4).1 (by decide)).trans u4⟩
/-- the loop over the drains -/
theorem ft_loop {d x z0' : Nat} {G0 : Gt} {sd0 : Nat → Nat} {T : St} (e00 : ∀ y, y < gH G0 → sd y = sd0 y) (h : FT X sd G g c a d S L z T) (h0c : ch G0 G (fun y => sd0 y ≠ 7)) (h0k : cost G0 G z0' z) (hr : rX X G z) (hw : WF S) (hb : bd S) (hx : x ≤ 40)
    (k : ∀ G' r, isLD S x r → FO X sd0 G0 g c a z0' S L G' → Pr r G') : ∃ (I : Gt → Nat → Int32 → Int32 → Prop) (μ : Gt → Nat → Int32 → Int32 → Nat), I G g (nI x) (0 : Int32) ∧ ∀ (G : Gt) (a0 : Nat) (x1 : Int32) (x2 : Int32), I G a0 x1 x2 → wX9_leastDrain_27 X Pr Px (fun G' a0' x1' x2' => I G' a0' x1' x2' ∧ μ G' a0' x1' x2' < μ G a0 x1 x2) G a0 x1 x2 := by
  refine ⟨fun K a0 y1 y2 => a0 = g ∧ y1 = nI x ∧ ∃ q sdK zK TK, y2 = nI q ∧ q ≤ x + 1 ∧ (∀ y, y < gH G0 → sdK y = sd0 y) ∧ FT X sdK K g c a d S L zK TK ∧ ch G0 K (fun y => sd0 y ≠ 7) ∧ cost G0 K z0' zK ∧ rX X K zK ∧ ∀ d', d' < q → ¬ ldS S d', fun _ _ _ y2 => x + 1 - y2.toNatClampNeg, ⟨rfl, rfl, 0, sd, z, T, rfl, by omega, e00, h, h0c, h0k, hr, fun _ hd => absurd hd (by omega)⟩, ?_⟩
  rintro K a0 y1 y2 ⟨rfl, rfl, q, sdK, zK, TK, rfl, hq, eK, fK, cK, kK, rK, nK⟩
  refine ⟨fun z1 => ?_, fun z1 => ?_⟩
  · have := (n_lt (by omega) (by omega)).mp z1
    exact k K (-1) (Or.inr ⟨rfl, fun d' hd => nK d' (by omega)⟩) ⟨sdK, zK, eK, fK.fx, cK, kK.1, by have := kK.2.1; omega, by have := kK.2.2; omega⟩
  · have hq' : q ≤ x := Nat.le_of_not_lt (fun e => z1 ((n_lt (by omega) (by omega)).mpr e))
    obtain ⟨g1, g2, g3, t1, t2⟩ := fK.gg
    refine ⟨g1, d, g3, g1, c, g2, t2, ft_copy fK rK hw hb (fun G1 sd1 z1' e1 e1' f1 c1 k1 i1 => ?_)⟩
    have r1 := rK.st k1
    obtain ⟨g1, g2, g3, t1, t2⟩ := f1.gg
    have hkt : gR G1 64 d = some (d + 1) ∧ gT G1 (d + 1) = (2, 5) := by
      obtain ⟨_, _, _, _, _, _, _, _, _, _, _, _, _, _, _, _, h3, _⟩ := f1
      exact ⟨h3.1.2.2.1.1, h3.1.2.2.2.1.1⟩
    refine ⟨g1, d, g3, t2, d + 1, hkt.1, by rw [hkt.2], by rw [hkt.2]; exact n_in (i := 3) (by decide) (by decide), ?_⟩
    obtain ⟨f2, c2⟩ := ft_set (q := q) f1
    have i2 : gI (sA G1 (d + 1) (upd (gA G1 (d + 1)) 3 (nI q))) 74 d = 0 := i1
    have e2H : gH (sA G1 (d + 1) (upd (gA G1 (d + 1)) 3 (nI q))) = gH G1 := rfl
    have k2 : cost G1 (sA G1 (d + 1) (upd (gA G1 (d + 1)) 3 (nI q))) z1' z1' := ⟨Nat.le_refl _, Nat.le_refl _, Nat.le_refl _⟩
    show ∀ G46, G46 = sA G1 (d + 1) (upd (gA G1 (d + 1)) 3 (nI q)) → _
    revert f2 c2 i2 e2H k2
    generalize sA G1 (d + 1) (upd (gA G1 (d + 1)) 3 (nI q)) = G2
    intro f2 c2 i2 e2H k2 G2' e2
    subst e2
    have r2 := r1.st k2
    obtain ⟨g1, g2, g3, t1, t2⟩ := f2.gg
    have wU : WF (u1 S 4 q) := u4_wf hw (by omega)
    have bU : bd (u1 S 4 q) := hb
    have n12 : zn (u1 S 4 q) 12 = zn S 12 := zn_u1n (by decide)
    have lt_all : ∀ T', WF T' → allS T' = allS (u1 S 4 q) → (zn S 12 < zn T' 12 → ¬ ldS S q) ∧ (wt T' = 0 → zn T' 12 = zn S 12 → ldS S q) := fun T' wT' eA => by
      refine ⟨fun q1 q2 => ?_, fun q1 q2 => ?_⟩
      · unfold ldS at q2
        rw [← eA] at q2
        have := (run_rq (wt T') T' wT').2.2
        have e : zn (allS T') 12 = zn (runS (wt T') T') 12 := rfl
        omega
      · unfold ldS
        rw [← eA, all_z q1]; exact q2
    have fin99 : ∀ (K3 : Gt) (z3 : Nat) (T' : St), FT X sd1 K3 a0 c a d S L z3 T' → ch G2' K3 (fun y => sd1 y ≠ 7) → cost G2' K3 z1' z3 → WF T' → allS T' = allS (u1 S 4 q) → zn S 12 ≤ zn T' 12 → gI K3 74 d = (if zn T' 12 = zn S 12 then 0 else 1) → (gI K3 74 d = 0 → wt T' = 0) → wX9_leastDrain_99 X Pr Px (fun G' a0' x1' x2' => (a0' = a0 ∧ x1' = nI x ∧ ∃ q sdK zK TK, x2' = nI q ∧ q ≤ x + 1 ∧ (∀ y, y < gH G0 → sdK y = sd0 y) ∧ FT X sdK G' a0 c a d S L zK TK ∧ ch G0 G' (fun y => sd0 y ≠ 7) ∧ cost G0 G' z0' zK ∧ rX X G' zK ∧ ∀ d', d' < q → ¬ ldS S d') ∧ x + 1 - x2'.toNatClampNeg < x + 1 - (nI q).toNatClampNeg) K3 a0 (nI x) (nI q) := by
      intro K3 z3 T' f3 c3 k3 wT' eA le12 i3 w0
      obtain ⟨g1, g2, g3, t1, t2⟩ := f3.gg
      obtain ⟨l1, l2⟩ := lt_all T' wT' eA
      have hG0 : gH G0 ≤ gH K := cK.1
      have eK3 : ∀ y, y < gH G0 → sd1 y = sd0 y := fun y hy => (e1 y (by omega)).trans (eK y hy)
      have hK1 : gH K ≤ gH G1 := c1.1
      have cc : ch G0 K3 (fun y => sd0 y ≠ 7) := by
        refine cK.tq (P' := fun y => sdK y ≠ 7) ?_ (fun y hy q => by rw [← eK y hy]; exact q)
        refine c1.tq (P' := fun y => sd1 y ≠ 7) ?_ (fun y hy q => by rw [← e1 y hy]; exact q)
        exact c2.ch.tr c3
      have kk : cost G0 K3 z0' z3 := cost_tr (cost_tr (cost_tr kK k1) k2) k3
      refine ⟨g1, d, g3, t2, fun z4 => ⟨⟨rfl, rfl, q + 1, sd1, z3, T', nI_1 q, by omega, eK3, f3, cc, kk, r2.st k3, fun d' hd => ?_⟩, dec_up (L := x + 1) (by omega) (by omega)⟩, fun z4 => ?_⟩
      · by_cases e : d' = q
        · rw [e]
          refine l1 ?_
          rw [i3] at z4
          by_cases e12 : zn T' 12 = zn S 12
          · rw [if_pos e12] at z4; exact absurd rfl z4
          · omega
        · exact nK d' (by omega)
      · refine k K3 (nI q) (Or.inl ⟨q, hq', rfl, l2 (w0 z4) ?_, nK⟩) ⟨sd1, z3, eK3, f3.fx, cc, kk.1, by have := kk.2.1; omega, by have := kk.2.2; omega⟩
        rw [i3] at z4
        by_cases e12 : zn T' 12 = zn S 12
        · exact e12
        · rw [if_neg e12] at z4; exact absurd z4 (by decide)
    have h40 : zn (u1 S 4 q) 6 ≤ 40 := wU.1.2.2.2.2.2.2.1
    have wl := wt_le (S := u1 S 4 q)
    have e1'' : ∀ y, gH G2' ≤ y → sd1 y = 4 := fun y hy => e1' y (by omega)
    obtain ⟨⟨s1, s2, s3, s4, s5, s6, s7, s8, s9⟩, s10, s11⟩ := step_ok wU
    refine ⟨g1, d, g3, t2, ft_ts f2 r2 wU bU e1'' (fun G3 z3 f3 c3 k3 i3 => ?_)⟩
    refine ⟨fun K4 a4 y1 y2 y3 y4 => a4 = a0 ∧ y1 = nI x ∧ y2 = nI q ∧ ∃ T' z4 v j, FT X sd1 K4 a0 c a d S L z4 T' ∧ ch G2' K4 (fun y => sd1 y ≠ 7) ∧ cost G2' K4 z1' z4 ∧ y3 = nI v ∧ v ≤ 40 ∧ y4 = nI j ∧ 1 ≤ j ∧ j ≤ 40 ∧ WF T' ∧ bd T' ∧ allS T' = allS (u1 S 4 q) ∧ (v = 0 → wt T' = 0) ∧ wt T' + j ≤ 40 ∧ zn S 12 ≤ zn T' 12 ∧ gI K4 74 d = (if zn T' 12 = zn S 12 then 0 else 1), fun _ _ _ _ _ y4 => 40 - y4.toNatClampNeg, ⟨rfl, rfl, rfl, _, z3, _, 1, f3, c3, k3, rfl, s11, rfl, by decide, by decide, s1, bd_step wU bU, all_s wU, fun e => by rw [(s10 e).1]; exact (s10 e).2, ?_, ?_, ?_⟩, ?_⟩
    · by_cases e : (stepS (u1 S 4 q)).2 = 0
      · rw [(s10 e).1, (s10 e).2]; decide
      · omega
    · omega
    · rw [i3, n12, i2]
    · rintro K4 a4 y1 y2 y3 y4 ⟨rfl, rfl, rfl, T', z4, v, j, f4, c4, k4, rfl, hv, rfl, j1, j2, wT', bT', eA, ev, ej, l12, i4⟩
      obtain ⟨g1, g2, g3, t1, t2⟩ := f4.gg
      refine ⟨fun q1 => fin99 K4 z4 T' f4 c4 k4 wT' eA l12 i4 (fun _ => ?_), fun q1 => ⟨fun q2 => fin99 K4 z4 T' f4 c4 k4 wT' eA l12 i4 (fun _ => ev ?_), fun q2 => ⟨g1, d, g3, t2, fun q3 => fin99 K4 z4 T' f4 c4 k4 wT' eA l12 i4 (fun e => absurd e q3), fun q3 => ⟨g1, d, g3, t2, ?_⟩⟩⟩⟩
      · have := (n_le (a := 40) (by decide) (by omega)).mp q1; omega
      · have := (n_le (b := 0) (by omega) (by decide)).mp q2; omega
      · have hj : j < 40 := Nat.lt_of_not_le (fun e => q1 ((n_le (a := 40) (by decide) (by omega)).mpr e))
        obtain ⟨⟨s1, s2, s3, s4, s5, s6, s7, s8, s9⟩, s10, s11⟩ := step_ok wT'
        refine ft_ts f4 (r2.st k4) wT' bT' (fun y hy => e1'' y (by have := c4.1; omega)) (fun G5 z5 f5 c5 k5 i5 => ⟨⟨rfl, rfl, rfl, _, z5, _, j + 1, f5, c4.tr c5, cost_tr k4 k5, rfl, s11, nI_1 j, by omega, by omega, s1, bd_step wT' bT', (all_s wT').trans eA, fun e => by rw [(s10 e).1]; exact (s10 e).2, ?_, by omega, ?_⟩, dec_up (L := 40) hj (by decide)⟩)
        · by_cases e : (stepS T').2 = 0
          · rw [(s10 e).1, (s10 e).2]; omega
          · omega
        · have eT : zn T' 12 = zn S 12 := by
            rw [i4] at q3
            by_cases e12 : zn T' 12 = zn S 12
            · exact e12
            · rw [if_neg e12] at q3; exact absurd q3 (by decide)
          rw [i5, q3, eT]
end FDRAIN
