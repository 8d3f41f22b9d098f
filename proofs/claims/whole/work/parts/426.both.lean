/-! ===== class and reference side by side ===== -/
def MR (sd : Nat → Nat) (G : Gt) (m : Nat) (ℓ : Nat → Nat) (S : St) (L : Hr) : Prop := ML G m ℓ ∧ MV (gA G (ℓ 0)) S ∧ MH (rd G m ℓ) L ∧ m < gH G ∧ sd m = 7 ∧ ∀ i, i ∈ mls → ℓ i < gH G ∧ sd (ℓ i) = 7
def OU (sd : Nat → Nat) (G : Gt) (o : Nat) : Prop := gT G o = (5, 1) ∧ o < gH G ∧ sd o = 7
def OKS (S : St) : Prop := WF S ∧ bd S ∧ ∀ i, zrq S i 8 ≤ 1
def wH (k : Nat) (L : Hr) : Prop := hl L ≤ k ∧ hn L ≤ k ∧ hb L ≤ 1 ∧ (hl L = 0 → hb L = 0)
/-- after k calls: both show S and L -/
def LQ (X : Xt) (n u : Nat) (sd : Nat → Nat) (k : Nat) (G : Gt) (g c a m : Nat) (ℓ : Nat → Nat) (o : Nat) (S : St) (L : Hr) (z : Nat) : Prop := FX X sd G g c a S L z ∧ MR sd G m ℓ S L ∧ OU sd G o ∧ OKS S ∧ wH k L ∧ gH G ≤ n + 200 + z + k ∧ gU G ≤ u + 20000 + 14 * z + 6 * k
def LI (X : Xt) (n u k : Nat) (G : Gt) (g m o : Nat) : Prop := ∃ sd c a ℓ S L z, LQ X n u sd k G g c a m ℓ o S L z
/-- the class has answered, the reference not yet -/
def LM (X : Xt) (n u : Nat) (sd : Nat → Nat) (k : Nat) (G : Gt) (g c a m : Nat) (ℓ : Nat → Nat) (o : Nat) (S : St) (L : Hr) (S' : St) (L' : Hr) (z : Nat) : Prop := FX X sd G g c a S L z ∧ MR sd G m ℓ S' L' ∧ OU sd G o ∧ gH G ≤ n + 200 + z + k ∧ gU G ≤ u + 20000 + 14 * z + 6 * k
section BOTH
variable {X : Xt} {sd sd' : Nat → Nat} {G G' : Gt} {g c a z n u k m o : Nat} {ℓ : Nat → Nat} {S S' : St} {L L' : Hr} {t t' : Tt}
theorem MR.keep (h : MR sd G m ℓ S L) (q : ch G G' (fun x => sd x ≠ 7)) (e : ∀ x, x < gH G → sd' x = sd x) : MR sd' G' m ℓ S L := by
  obtain ⟨h1, h2, h3, h4, h5, h6⟩ := h
  have em := q.2.2.1 m h4 (fun z => z h5)
  have el : ∀ i, i ∈ mls → eqAt G G' (ℓ i) := fun i hi => q.2.2.1 _ (h6 i hi).1 (fun z => z (h6 i hi).2)
  have hh := q.1
  obtain ⟨q1, ⟨r1, r2, r3, r4, r5, r6, r7⟩, ⟨t1, t2, t3, t4, t5, t6, t7⟩, q4⟩ := h1
  refine ⟨⟨em.1.trans q1, ⟨(em.2.2.2.1 _).trans r1, (em.2.2.2.1 _).trans r2, (em.2.2.2.1 _).trans r3, (em.2.2.2.1 _).trans r4, (em.2.2.2.1 _).trans r5, (em.2.2.2.1 _).trans r6, (em.2.2.2.1 _).trans r7⟩, ⟨(el 0 (by decide)).1.trans t1, (el 1 (by decide)).1.trans t2, (el 9 (by decide)).1.trans t3, (el 11 (by decide)).1.trans t4, (el 12 (by decide)).1.trans t5, (el 16 (by decide)).1.trans t6, (el 17 (by decide)).1.trans t7⟩, q4⟩, ?_, ?_, by omega, (e m h4).trans h5, fun i hi => ⟨by have := (h6 i hi).1; omega, (e _ (h6 i hi).1).trans (h6 i hi).2⟩⟩
  · rw [(el 0 (by decide)).2.2.2.2.1]; exact h2
  · obtain ⟨a1, a2, a3, a4, a5, a6⟩ := h3
    refine ⟨(em.2.1 _).trans a1, (em.2.1 _).trans a2, (em.2.1 _).trans a3, (em.2.1 _).trans a4, fun j hj => ?_, fun j hj => ?_⟩
    · show gA G' (ℓ 16) j = _
      rw [(el 16 (by decide)).2.2.2.2.1]; exact a5 j hj
    · show gA G' (ℓ 17) j = _
      rw [(el 17 (by decide)).2.2.2.2.1]; exact a6 j hj
theorem MR.nw (h : MR sd G m ℓ S L) (hv : MV (tA t' 0) S') (hh : MH t' L') : MR sd (mk G m ℓ t') m ℓ S' L' := by
  obtain ⟨h1, h2, h3, h4, h5, h6⟩ := h
  refine ⟨h1, by rw [ml_gA0 h1]; exact hv, ?_, h4, h5, h6⟩
  obtain ⟨a1, a2, a3, a4, a5, a6⟩ := hh
  refine ⟨(ml_gI (G := G) (ℓ := ℓ) t' 365).trans a1, (ml_gI (G := G) (ℓ := ℓ) t' 366).trans a2, (ml_gI (G := G) (ℓ := ℓ) t' 367).trans a3, (ml_gI (G := G) (ℓ := ℓ) t' 370).trans a4, fun j hj => ?_, fun j hj => ?_⟩
  · show gA (mk G m ℓ t') (ℓ 16) j = _
    rw [ml_gA16 h1]; exact a5 j hj
  · show gA (mk G m ℓ t') (ℓ 17) j = _
    rw [ml_gA17 h1]; exact a6 j hj
theorem MR.cg (h : MR sd G m ℓ S L) (t' : Tt) : cg G (mk G m ℓ t') (fun x => sd x = 7) := by
  obtain ⟨h1, h2, h3, h4, h5, h6⟩ := h
  refine ⟨rfl, rfl, fun _ => rfl, fun _ _ => rfl, fun _ => rfl, fun x hx => ⟨rfl, fun f => ?_, fun f => ?_, fun _ => rfl, ?_, rfl, rfl⟩⟩
  · show (if x = m then _ else gI G f x) = _
    rw [if_neg (fun e => hx (by rw [e]; exact h5))]
  · show (if f = 355 ∧ x = m then _ else gJ G f x) = _
    rw [if_neg (fun e => hx (by rw [e.2]; exact h5))]
  · have ne : ∀ i, i ∈ mls → ¬ x = ℓ i := fun i hi e => hx (by rw [e]; exact (h6 i hi).2)
    show (if x = ℓ 0 then tA t' 0 else if x = ℓ 1 then tA t' 1 else if x = ℓ 9 then tA t' 9 else if x = ℓ 11 then tA t' 11 else if x = ℓ 12 then tA t' 12 else if x = ℓ 16 then tA t' 16 else if x = ℓ 17 then tA t' 17 else gA G x) = _
    rw [if_neg (ne 0 (by decide)), if_neg (ne 1 (by decide)), if_neg (ne 9 (by decide)), if_neg (ne 11 (by decide)), if_neg (ne 12 (by decide)), if_neg (ne 16 (by decide)), if_neg (ne 17 (by decide))]
theorem lq_mid (h : LQ X n u sd k G g c a m ℓ o S L z) (f : FO X sd G g c a z S' L' G') : ∃ sd' z', LM X n u sd' (k + 1) G' g c a m ℓ o S' L' S L z' := by
  obtain ⟨h1, h2, ⟨o1, o2, o3⟩, _, _, h6, h7⟩ := h
  obtain ⟨sd', z', e, f1, f2, f3, f4, f5⟩ := f
  have eo := f2.2.2.1 o o2 (fun z => z o3)
  exact ⟨sd', z', f1, h2.keep f2 e, ⟨eo.1.trans o1, Nat.lt_of_lt_of_le o2 f2.1, (e o o2).trans o3⟩, by omega, by omega⟩
theorem ch_sE {f : Nat → Int64} : ch G (sE G o f) (fun x => x = o) := ⟨Nat.le_refl _, fun _ _ => rfl, fun _ _ hb => eqAt.sE hb, fun _ _ _ _ _ => rfl, fun _ _ _ => rfl⟩
theorem LM.ou {f : Nat → Int64} (h : LM X n u sd k G g c a m ℓ o S L S' L' z) : LM X n u sd k (sE G o f) g c a m ℓ o S L S' L' z := by
  obtain ⟨h1, h2, ⟨o1, o2, o3⟩, h6, h7⟩ := h
  exact ⟨h1.keep (ch_sE (f := f)) (fun x e => by rw [show x = o from e]; exact o3), h2, ⟨o1, o2, o3⟩, h6, h7⟩
theorem LM.fin (h : LM X n u sd k G g c a m ℓ o S L S' L' z) (hv : MV (tA t' 0) S) (hh : MH t' L) (hS : OKS S) (hL : wH k L) : LI X n u k (mk G m ℓ t') g m o := by
  obtain ⟨h1, h2, ⟨o1, o2, o3⟩, h6, h7⟩ := h
  exact ⟨sd, c, a, ℓ, S, L, z, h1.keep (h2.cg t').ch (fun x e => e), h2.nw hv hh, ⟨o1, o2, o3⟩, hS, hL, h6, h7⟩
theorem LQ.r (h : LQ X n u sd k G g c a m ℓ o S L z) (hk : k ≤ 512) (hC : n + 10000 ≤ xC X) (hS : u + 200000 ≤ xS X) : rX X G z := by
  obtain ⟨h1, h2, h3, h4, h5, h6, h7⟩ := h
  exact ⟨by omega, by omega⟩
theorem wH.w (h : wH k L) (hk : k ≤ 512) : wfH L := ⟨by have := h.1; omega, h.2.2.1, by have := h.2.1; omega, h.2.2.2⟩
theorem wH.up (h : wH k L) : wH (k + 1) L := ⟨by have := h.1; omega, by have := h.2.1; omega, h.2.2.1, h.2.2.2⟩
theorem wH.cl (h : wH k L) : wH (k + 1) (hCl L) := by
  unfold hCl
  split
  · exact h.up
  · exact ⟨Nat.zero_le _, by have := h.2.1; show hn L + 1 ≤ k + 1; omega, Nat.zero_le _, fun _ => rfl⟩
theorem wH.fd {x gap : Nat} (h : wH k L) : wH (k + 1) (hFd L x gap) := by
  have hB1 : ∀ L : Hr, hB L gap ≤ 1 := fun L => by unfold hB; split <;> (try split) <;> omega
  unfold hFd hAdd
  by_cases e : gap < 4
  · rw [if_pos e]
    refine ⟨by have := h.1; show hl L + 1 ≤ k + 1; omega, by have := h.2.1; show hn L ≤ k + 1; omega, hB1 L, fun z => absurd (show hl L + 1 = 0 from z) (by omega)⟩
  · rw [if_neg e]
    have hc := h.cl
    refine ⟨?_, hc.2.1, hB1 _, fun z => absurd (show hl (hCl L) + 1 = 0 from z) (by omega)⟩
    show hl (hCl L) + 1 ≤ k + 1
    have : hl (hCl L) = 0 := by
      unfold hCl
      by_cases e : hl L = 0
      · rw [if_pos e]; exact e
      · rw [if_neg e]; rfl
    omega
theorem MH.zz (h : MH t L) (hz : smZ t t') : MH t' L := by
  obtain ⟨a1, a2, a3, a4, a5, a6⟩ := h
  obtain ⟨z1, z2, z3⟩ := hz
  exact ⟨(z3 _ (Or.inr (by decide))).trans a1, (z3 _ (Or.inr (by decide))).trans a2, (z3 _ (Or.inr (by decide))).trans a3, (z3 _ (Or.inr (by decide))).trans a4, fun j hj => by rw [z1]; exact a5 j hj, fun j hj => by rw [z2]; exact a6 j hj⟩
theorem smZ_tT {x : Int32} : smZ (uS t 354 x) (tT t x) := ⟨rfl, rfl, fun f _ => by rw [tS_uS, tS_uS, tS_uS]; by_cases e : f = 354 <;> simp [e]⟩
theorem lgc (x : Int64) : lg_cmp x x = 0 := by unfold lg_cmp; simp
/-- the law's comparison behind a call that may throw -/
def TL (X : Xt) (m o : Nat) (r : Int32) (K P0 : Gt → Prop) : Int32 → Gt → Prop := fun r84 G85 => gT G85 m = (1, 11) ∧ wX10_thrown X G85 m (fun r86 G87 => (r86 = r → (¬ r = 0 → K G87) ∧ (r = 0 → (gT G87 o).1 = 5 ∧ vp_in 0 (gT G87 o).2 ∧ ((lg_cmp (gE G87 o (0 : Int32).toNatClampNeg) ((r84 : Int32).toInt64)) = 0 → K G87) ∧ (¬ ((lg_cmp (gE G87 o (0 : Int32).toNatClampNeg) ((r84 : Int32).toInt64)) = 0) → P0 G87))) ∧ (¬ (r86 = r) → P0 G87))
theorem tl_h {r r84 : Int32} {K P0 : Gt → Prop} (h : LM X n u sd k G g c a m ℓ o S L S' L' z) (hth : tS t' 354 = r) (hv : MV (tA t' 0) S) (hh : MH t' L) (hS : OKS S) (hL : wH k L) (ho : r = 0 → gE G o 0 = r84.toInt64) (kk : ∀ G', LI X n u k G' g m o → K G') : TL X m o r K P0 r84 (mk G m ℓ t') := by
  have fin := kk _ (h.fin hv hh hS hL)
  obtain ⟨h1, h2, ⟨o1, o2, o3⟩, h6, h7⟩ := h
  have e : gI (mk G m ℓ t') 354 m = r := (ml_gI (G := G) (ℓ := ℓ) t' 354).trans hth
  refine ⟨h2.1.1, h2.1.1, fun _ => ⟨fun _ => fin, fun z => ⟨by show (gT G o).1 = 5; rw [o1], by show vp_in 0 (gT G o).2; rw [o1]; exact n_in (i := 0) (by decide) (by decide), fun _ => fin, fun q => ?_⟩⟩, fun q => absurd e q⟩
  refine absurd ?_ q
  show lg_cmp (gE G o 0) _ = 0
  rw [ho z]; exact lgc _
theorem tl_z {r r84 : Int32} {K P0 : Gt → Prop} (h : LM X n u sd k G g c a m ℓ o S L S' L z) (zz : smZ (uS (rd G m ℓ) 354 r) t') (hv : MV (tA t' 0) S) (hS : OKS S) (hL : wH k L) (ho : r = 0 → gE G o 0 = r84.toInt64) (kk : ∀ G', LI X n u k G' g m o → K G') : TL X m o r K P0 r84 (mk G m ℓ t') :=
  tl_h h (by rw [zz.2.2 354 (Or.inl rfl), tS_uS, if_pos rfl]) hv ((h.2.1.2.2.1.th0).zz zz) hS hL ho kk
/-- the class's answer is written out -/
theorem lm_out {v : Int64} {Q : Gt → Prop} (h : LM X n u sd k G g c a m ℓ o S L S' L' z) (kq : ∀ G3, LM X n u sd k G3 g c a m ℓ o S L S' L' z → gE G3 o 0 = v → Q G3) : (gT G o).1 = 5 ∧ vp_in 0 (gT G o).2 ∧ ∀ G3, G3 = sE G o (vp_updL (gE G o) (0 : Int32).toNatClampNeg v) → Q G3 := by
  have o1 := h.2.2.1.1
  refine ⟨by rw [o1], by rw [o1]; exact n_in (i := 0) (by decide) (by decide), ?_⟩
  rintro G3 rfl
  refine kq _ h.ou ?_
  show (if o = o then vp_updL (gE G o) 0 v else gE G o) 0 = v
  rw [if_pos rfl]
  simp [vp_updL]
end BOTH
